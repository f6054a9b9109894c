def f_X8_make_130 (k12 : SM → Int32 → Option (Int32 × SM)) (k96 : SM → Int32 → Int32 → Int32 → Int32 → Option (Int32 × SM)) (σ : SM) (x1 : Int32) (x2 : Int32) (x3 : Int32) (x4 : Int32) (s1 : Int32) : Option (Int32 × SM) := (f_X8_write σ s1 1).bind fun q131 => k96 q131 x1 x2 x3 (x4 + 1)
def f_X8_make_96 (k12 : SM → Int32 → Option (Int32 × SM)) : Nat → SM → Int32 → Int32 → Int32 → Int32 → Option (Int32 × SM)
  | 0, _, _, _, _, _ => none
  | n + 1, σ, x1, x2, x3, x4 => if x3 ≤ x4 then (k12 σ (x1 + 1)) else (if x2 = 0 then (if inb ((1500 * x1) + x4) (capM 5) = true then (f_X8_make_130 k12 (f_X8_make_96 k12 n) σ x1 x2 x3 x4 (σ.2 5 ((1500 * x1) + x4).toNatClampNeg)) else none) else (if inb x4 (capM 7) = true then (f_X8_make_130 k12 (f_X8_make_96 k12 n) σ x1 x2 x3 x4 (σ.2 7 x4.toNatClampNeg)) else none))
def f_X8_make_92 (k12 : SM → Int32 → Option (Int32 × SM)) (σ : SM) (x1 : Int32) (x2 : Int32) (s0 : Int32) : Option (Int32 × SM) := f_X8_make_96 k12 fu σ x1 x2 s0 0
def f_X8_make_74 (k12 : SM → Int32 → Option (Int32 × SM)) (σ : SM) (x1 : Int32) (s0 : Int32) : Option (Int32 × SM) := if s0 = 0 then (if inb x1 (capM 6) = true then (f_X8_make_92 k12 σ x1 s0 (σ.2 6 x1.toNatClampNeg)) else none) else (f_X8_make_92 k12 σ x1 s0 (σ.1 7))
def f_X8_make_153 : Nat → SM → Int32 → Int32 → Option (Int32 × SM)
  | 0, _, _, _ => none
  | n + 1, σ, x1, x2 => if (σ.1 3) ≤ x2 then ((f_X8_sign σ 5 6).bind fun q232 => (f_X8_write q232 0 4).bind fun q238 => (f_X8_write q238 (q238.1 3) 2).bind fun q247 => (f_X8_write q247 (q247.1 3) 2).bind fun q256 => (f_X8_write q256 ((σ.1 2) - x1) 4).bind fun q262 => (f_X8_write q262 x1 4).bind fun q268 => (f_X8_write q268 0 2).bind fun q274 => some (q274.1 2, q274)) else ((f_X8_sign σ 1 2).bind fun q164 => (f_X8_write q164 20 2).bind fun q171 => (f_X8_write q171 20 2).bind fun q178 => (f_X8_writeFacts q178 x2).bind fun q183 => (f_X8_write q183 0 8).bind fun q190 => (f_X8_write q190 0 4).bind fun q196 => if inb x2 (capM 10) = true then ((f_X8_write q196 (q196.2 10 x2.toNatClampNeg) 4).bind fun q207 => (f_X8_writeName q207 x2).bind fun q212 => f_X8_make_153 n q212 x1 (x2 + 1)) else none)
def f_X8_make_12 : Nat → SM → Int32 → Option (Int32 × SM)
  | 0, _, _ => none
  | n + 1, σ, x1 => if (σ.1 3) ≤ x1 then (f_X8_make_153 fu σ (σ.1 2) 0) else (if inb x1 (capM 10) = true then ((f_X8_sign (SMc σ 10 (upd (σ.2 10) x1.toNatClampNeg (σ.1 2))) 3 4).bind fun q33 => (f_X8_write q33 20 2).bind fun q40 => (f_X8_writeFacts q40 x1).bind fun q45 => (f_X8_write q45 0 2).bind fun q51 => (f_X8_writeName q51 x1).bind fun q56 => (f_X8_method q56 x1).bind fun q61 => if q61.1 = 99 then (f_X8_make_74 (f_X8_make_12 n) q61.2 x1 1) else (f_X8_make_74 (f_X8_make_12 n) q61.2 x1 0)) else none)
def f_X8_make (σ : SM) : Option (Int32 × SM) := f_X8_make_12 fu (SMi (SMi σ 0 0) 2 0) 0
def rm_X8_make : Room := { frames := 5, cells := 0, slots := 0, locals := 112 }
set_option maxHeartbeats 4000000 in
set_option maxRecDepth 100000 in
theorem met_X8_make (l : Launch) (dC : Nat → ClassId) (dI : Nat → Nat → Nat) (cyI cyE : ClassId) (tC : Nat) (ad : Nat → Nat) (σ : SM) (res : Int32 × SM) (hf : f_X8_make σ = some res) : ax_Mi l dC dI cyI cyE tC 12 (cM cyI ad) ad yX8_make cX8_make 5 (some .int) rm_X8_make [.ref (ad 11)] σ res.1 res.2 := by
  intro sz
  refine Met.ofW (cc := cX8_make) (maxL := 5) (ret := (some .int)) (by decide) rfl ?_
  intro p e s m args below meth c s₁ B hml hv
  obtain ⟨hargs, hsz, hP, hJ, hE⟩ := hv
  subst hsz
  have hx := B.exec
  have hb := B.bytes
  have hr := B.returns
  have hlocks := B.notSynchronized
  have hts := atoms_spec (ws := wsY yX8_make cX8_make 5 (some .int)) B.pre
  have hown : s.vm.findClass RX8 = some m.cls := findClass_of_methodNamed B.named
  have C0 : CallFix p m c cX8_make 5 s args (wsY yX8_make cX8_make 5 (some .int)) RX8 := ⟨hx, hb, hml, hown, hts⟩
  have hT : ∀ w ∈ bw, w ∈ wsY yX8_make cX8_make 5 (some .int) := fun w h => List.mem_cons_of_mem _ h
  have hS : va_S (ax_A 12 ad s.heap.size) s.heap s.heap [] := va_S.rf
  rw [show entryFrame m args 5 = entryFrame m ([.ref (ad 11)] : List Value).toArray 5 by rw [hargs]]
  have hl := lv_entry ([.ref (ad 11)]) (n := 5) (Nat.le_of_ble_eq_true rfl)
  rw [lg_entry_eq]
  generalize (lg_sl ([.ref (ad 11)]) ++ List.replicate (5 - (lg_sl ([.ref (ad 11)])).length) Slot.unset).toArray = ls at hl ⊢
  have hl : lv_has ls 5 [(0, .ref (ad 11))] := hl
  obtain ⟨Q, hQ⟩ : ∃ Q : State → Prop, Q = MQ below (va_Qi (fun (a : Int32) (u : SM) => a = res.1 ∧ u = res.2) (ax_B dC dI 12 (cM cyI ad) ad) (ax_A 12 ad s.heap.size)) args s 0 0 (ax_A 12 ad s.heap.size) := ⟨_, rfl⟩
  show W p l e rm_X8_make s m args below meth c s.heap [] 0 0 _ _
  rw [← hQ]
  have hret : ∀ (v : Int32) (σ : SM) (H : Heap) (locs : List Loc) (ls : Array Slot) (pc : Nat), narrow .int (.int v) = .int v → some (v, σ) = some res → va_P (dC, dI) vwCl (ax_w 12 ad (cM cyI ad σ)) H → va_S (ax_A 12 ad s.heap.size) s.heap H locs → decode cX8_make pc = .ok (.ireturn, 1) → W p l e rm_X8_make s m args below meth c H locs 0 0 Q (F0 m pc ls [.int v]) := by
    intro v σ H locs ls pc hn hf hP hS hd
    cases hf
    rw [hQ]
    exact ax_iret hx hb hr hlocks hn hP hS hd rfl rfl
  have L130 : ∀ (k12 : SM → Int32 → Option (Int32 × SM)), (∀ (σ : SM) (x1 : Int32), ∀ (H : Heap) (locs : List Loc) (ls : Array Slot), va_P (dC, dI) vwCl (ax_w 12 ad (cM cyI ad σ)) H → va_S (ax_A 12 ad s.heap.size) s.heap H locs → lv_has ls 5 [(0, .ref (ad 11)), (1, .int x1)] → k12 σ x1 = some res → W p l e rm_X8_make s m args below meth c H locs 0 0 Q (F0 m 12 ls [])) → ∀ (k96 : SM → Int32 → Int32 → Int32 → Int32 → Option (Int32 × SM)), (∀ (σ : SM) (x1 : Int32) (x2 : Int32) (x3 : Int32) (x4 : Int32), ∀ (H : Heap) (locs : List Loc) (ls : Array Slot), va_P (dC, dI) vwCl (ax_w 12 ad (cM cyI ad σ)) H → va_S (ax_A 12 ad s.heap.size) s.heap H locs → lv_has ls 5 [(0, .ref (ad 11)), (1, .int x1), (2, .int x2), (3, .int x3), (4, .int x4)] → k96 σ x1 x2 x3 x4 = some res → W p l e rm_X8_make s m args below meth c H locs 0 0 Q (F0 m 96 ls [])) → ∀ (σ : SM) (x1 : Int32) (x2 : Int32) (x3 : Int32) (x4 : Int32) (s1 : Int32), ∀ (H : Heap) (locs : List Loc) (ls : Array Slot), va_P (dC, dI) vwCl (ax_w 12 ad (cM cyI ad σ)) H → va_S (ax_A 12 ad s.heap.size) s.heap H locs → lv_has ls 5 [(0, .ref (ad 11)), (1, .int x1), (2, .int x2), (3, .int x3), (4, .int x4)] → f_X8_make_130 k12 k96 σ x1 x2 x3 x4 s1 = some res → W p l e rm_X8_make s m args below meth c H locs 0 0 Q (F0 m 130 ls [.int s1, .ref (ad 11)]) := by
    intro k12 hk12 k96 hk96
    intro σ x1 x2 x3 x4 s1  H locs ls hP hS hl hf
    unfold f_X8_make_130 at hf
    refine lv_iconst (v := 1) hx hb dX8_make_130 (by decide) ?_
    obtain ⟨q131, hq, hf⟩ := ob_bind hf
    refine ax_callVv (b := 0) (i := 11) (k := 2) (ci := 6) [.int s1, .int 1] C0 hT hJ hE (met_X8_write l dC dI cyI cyE tC ad σ s1 1 _ hq) hP hS mc_X8_write ml_X8_114 mi_X8_write ms_X8_write mz_X8 (by decide +kernel) ⟨rfl, rfl⟩ ⟨by decide, by decide⟩ (by decide) cM_O rfl rfl rfl hl.1 (Nat.le_of_ble_eq_true rfl) dX8_make_131 ⟨Nat.zero_le _, Nat.zero_le _⟩ (fun H locs hP hS => ?_)
    refine lv_iinc (v := x4 + 1) (lv' := [(4, .int (x4 + 1)), (0, .ref (ad 11)), (1, .int x1), (2, .int x2), (3, .int x3)]) hx hb dX8_make_134 hl (k := 4) rfl rfl (by decide) rfl (fun ls hl => ?_)
    refine lv_goto (tgt := 96) hx hb dX8_make_137 (by decide) ?_
    exact hk96 _ _ _ _ _ _ _ _ hP hS (lv_sub hl [1, 2, 3, 4, 0] rfl) hf
  have L96 : ∀ (k12 : SM → Int32 → Option (Int32 × SM)), (∀ (σ : SM) (x1 : Int32), ∀ (H : Heap) (locs : List Loc) (ls : Array Slot), va_P (dC, dI) vwCl (ax_w 12 ad (cM cyI ad σ)) H → va_S (ax_A 12 ad s.heap.size) s.heap H locs → lv_has ls 5 [(0, .ref (ad 11)), (1, .int x1)] → k12 σ x1 = some res → W p l e rm_X8_make s m args below meth c H locs 0 0 Q (F0 m 12 ls [])) → ∀ (n : Nat), ∀ (σ : SM) (x1 : Int32) (x2 : Int32) (x3 : Int32) (x4 : Int32), ∀ (H : Heap) (locs : List Loc) (ls : Array Slot), va_P (dC, dI) vwCl (ax_w 12 ad (cM cyI ad σ)) H → va_S (ax_A 12 ad s.heap.size) s.heap H locs → lv_has ls 5 [(0, .ref (ad 11)), (1, .int x1), (2, .int x2), (3, .int x3), (4, .int x4)] → f_X8_make_96 k12 n σ x1 x2 x3 x4 = some res → W p l e rm_X8_make s m args below meth c H locs 0 0 Q (F0 m 96 ls []) := by
    intro k12 hk12
    intro n
    induction n with
    | zero =>
      intro σ x1 x2 x3 x4  H locs ls hP hS hl hf
      cases hf
    | succ n ih =>
      intro σ x1 x2 x3 x4  H locs ls hP hS hl hf
      rw [f_X8_make_96] at hf
      refine lv_iload hx hb dX8_make_96 (lv_at hl 4 rfl) ?_
      refine lv_iload_n hx hb dX8_make_98 rfl (lv_at hl 3 rfl) ?_
      refine lv_icmp_ge (tgt := 140) hx hb dX8_make_99 (by decide) (fun h99 => ?_) (fun h99 => ?_)
      · rw [if_pos h99] at hf
        refine lv_iinc (v := x1 + 1) (lv' := [(1, .int (x1 + 1)), (0, .ref (ad 11)), (2, .int x2), (3, .int x3), (4, .int x4)]) hx hb dX8_make_140 hl (k := 1) rfl rfl (by decide) rfl (fun ls hl => ?_)
        refine lv_goto (tgt := 12) hx hb dX8_make_143 (by decide) ?_
        exact hk12 _ _ _ _ _ hP hS (lv_sub hl [1, 0] rfl) hf
      · rw [if_neg h99] at hf
        refine lv_aload_n hx hb dX8_make_102 rfl (lv_at hl 0 rfl) ?_
        refine lv_iload_n hx hb dX8_make_103 rfl (lv_at hl 2 rfl) ?_
        refine lv_if_eq (tgt := 117) hx hb dX8_make_104 (by decide) (fun h104 => ?_) (fun h104 => ?_)
        · rw [if_pos h104] at hf
          refine lv_aload_n hx hb dX8_make_117 rfl (lv_at hl 0 rfl) ?_
          refine g_Model_bytes C0 hT hE hP mf_X8_25 dX8_make_118 ?_
          refine lv_sipush (v := 1500) hx hb dX8_make_121 (by decide) ?_
          refine lv_iload_n hx hb dX8_make_124 rfl (lv_at hl 1 rfl) ?_
          refine lv_imul hx hb dX8_make_125 ?_
          refine lv_iload hx hb dX8_make_126 (lv_at hl 4 rfl) ?_
          refine lv_iadd hx hb dX8_make_128 ?_
          obtain ⟨hin, hf⟩ := ob_if hf
          refine aM_ld (a := 5) (by decide) C0 hT hE hP (inb_in hin) dX8_make_129 ?_
          exact L130 _ hk12 _ ih _ _ _ _ _ _ _ _ _ hP hS (lv_sub hl [0, 1, 2, 3, 4] rfl) hf
        · rw [if_neg h104] at hf
          refine lv_aload_n hx hb dX8_make_107 rfl (lv_at hl 0 rfl) ?_
          refine g_Model_folded C0 hT hE hP mf_X8_38 dX8_make_108 ?_
          refine lv_iload hx hb dX8_make_111 (lv_at hl 4 rfl) ?_
          obtain ⟨hin, hf⟩ := ob_if hf
          refine aM_ld (a := 7) (by decide) C0 hT hE hP (inb_in hin) dX8_make_113 ?_
          refine lv_goto (tgt := 130) hx hb dX8_make_114 (by decide) ?_
          exact L130 _ hk12 _ ih _ _ _ _ _ _ _ _ _ hP hS (lv_sub hl [0, 1, 2, 3, 4] rfl) hf
  have L92 : ∀ (k12 : SM → Int32 → Option (Int32 × SM)), (∀ (σ : SM) (x1 : Int32), ∀ (H : Heap) (locs : List Loc) (ls : Array Slot), va_P (dC, dI) vwCl (ax_w 12 ad (cM cyI ad σ)) H → va_S (ax_A 12 ad s.heap.size) s.heap H locs → lv_has ls 5 [(0, .ref (ad 11)), (1, .int x1)] → k12 σ x1 = some res → W p l e rm_X8_make s m args below meth c H locs 0 0 Q (F0 m 12 ls [])) → ∀ (σ : SM) (x1 : Int32) (x2 : Int32) (s0 : Int32), ∀ (H : Heap) (locs : List Loc) (ls : Array Slot), va_P (dC, dI) vwCl (ax_w 12 ad (cM cyI ad σ)) H → va_S (ax_A 12 ad s.heap.size) s.heap H locs → lv_has ls 5 [(0, .ref (ad 11)), (1, .int x1), (2, .int x2)] → f_X8_make_92 k12 σ x1 x2 s0 = some res → W p l e rm_X8_make s m args below meth c H locs 0 0 Q (F0 m 92 ls [.int s0]) := by
    intro k12 hk12
    intro σ x1 x2 s0  H locs ls hP hS hl hf
    unfold f_X8_make_92 at hf
    refine lv_istore_n (lv' := [(3, .int s0), (0, .ref (ad 11)), (1, .int x1), (2, .int x2)]) hx hb dX8_make_92 rfl hl (by decide) rfl (fun ls hl => ?_)
    refine lv_iconst (v := 0) hx hb dX8_make_93 (by decide) ?_
    refine lv_istore (lv' := [(4, .int 0), (3, .int s0), (0, .ref (ad 11)), (1, .int x1), (2, .int x2)]) hx hb dX8_make_94 hl (by decide) rfl (fun ls hl => ?_)
    exact L96 _ hk12 fu _ _ _ _ _ _ _ _ hP hS (lv_sub hl [2, 3, 4, 1, 0] rfl) hf
  have L74 : ∀ (k12 : SM → Int32 → Option (Int32 × SM)), (∀ (σ : SM) (x1 : Int32), ∀ (H : Heap) (locs : List Loc) (ls : Array Slot), va_P (dC, dI) vwCl (ax_w 12 ad (cM cyI ad σ)) H → va_S (ax_A 12 ad s.heap.size) s.heap H locs → lv_has ls 5 [(0, .ref (ad 11)), (1, .int x1)] → k12 σ x1 = some res → W p l e rm_X8_make s m args below meth c H locs 0 0 Q (F0 m 12 ls [])) → ∀ (σ : SM) (x1 : Int32) (s0 : Int32), ∀ (H : Heap) (locs : List Loc) (ls : Array Slot), va_P (dC, dI) vwCl (ax_w 12 ad (cM cyI ad σ)) H → va_S (ax_A 12 ad s.heap.size) s.heap H locs → lv_has ls 5 [(0, .ref (ad 11)), (1, .int x1)] → f_X8_make_74 k12 σ x1 s0 = some res → W p l e rm_X8_make s m args below meth c H locs 0 0 Q (F0 m 74 ls [.int s0]) := by
    intro k12 hk12
    intro σ x1 s0  H locs ls hP hS hl hf
    unfold f_X8_make_74 at hf
    refine lv_istore_n (lv' := [(2, .int s0), (0, .ref (ad 11)), (1, .int x1)]) hx hb dX8_make_74 rfl hl (by decide) rfl (fun ls hl => ?_)
    refine lv_iload_n hx hb dX8_make_75 rfl (lv_at hl 0 rfl) ?_
    refine lv_if_eq (tgt := 86) hx hb dX8_make_76 (by decide) (fun h76 => ?_) (fun h76 => ?_)
    · rw [if_pos h76] at hf
      refine lv_aload_n hx hb dX8_make_86 rfl (lv_at hl 1 rfl) ?_
      refine g_Model_many C0 hT hE hP mf_X8_28 dX8_make_87 ?_
      refine lv_iload_n hx hb dX8_make_90 rfl (lv_at hl 2 rfl) ?_
      obtain ⟨hin, hf⟩ := ob_if hf
      refine aM_ld (a := 6) (by decide) C0 hT hE hP (inb_in hin) dX8_make_91 ?_
      exact L92 _ hk12 _ _ _ _ _ _ _ hP hS (lv_sub hl [1, 2, 0] rfl) hf
    · rw [if_neg h76] at hf
      refine lv_aload_n hx hb dX8_make_79 rfl (lv_at hl 1 rfl) ?_
      refine g_Model_foldedSize C0 hT hE hP mf_X8_96 dX8_make_80 ?_
      refine lv_goto (tgt := 92) hx hb dX8_make_83 (by decide) ?_
      exact L92 _ hk12 _ _ _ _ _ _ _ hP hS (lv_sub hl [1, 2, 0] rfl) hf
  have L153 : ∀ (n : Nat), ∀ (σ : SM) (x1 : Int32) (x2 : Int32), ∀ (H : Heap) (locs : List Loc) (ls : Array Slot), va_P (dC, dI) vwCl (ax_w 12 ad (cM cyI ad σ)) H → va_S (ax_A 12 ad s.heap.size) s.heap H locs → lv_has ls 5 [(0, .ref (ad 11)), (1, .int x1), (2, .int x2)] → f_X8_make_153 n σ x1 x2 = some res → W p l e rm_X8_make s m args below meth c H locs 0 0 Q (F0 m 153 ls []) := by
    intro n
    induction n with
    | zero =>
      intro σ x1 x2  H locs ls hP hS hl hf
      cases hf
    | succ n ih =>
      intro σ x1 x2  H locs ls hP hS hl hf
      rw [f_X8_make_153] at hf
      refine lv_iload_n hx hb dX8_make_153 rfl (lv_at hl 2 rfl) ?_
      refine lv_aload_n hx hb dX8_make_154 rfl (lv_at hl 0 rfl) ?_
      refine g_Model_files C0 hT hE hP mf_X8_59 dX8_make_155 ?_
      refine lv_icmp_ge (tgt := 221) hx hb dX8_make_158 (by decide) (fun h158 => ?_) (fun h158 => ?_)
      · rw [if_pos h158] at hf
        refine lv_aload_n hx hb dX8_make_221 rfl (lv_at hl 0 rfl) ?_
        refine g_Model_outputSize C0 hT hE hP mf_X8_56 dX8_make_222 ?_
        refine lv_iload_n hx hb dX8_make_225 rfl (lv_at hl 1 rfl) ?_
        refine lv_isub hx hb dX8_make_226 ?_
        refine lv_istore_n (lv' := [(2, .int ((σ.1 2) - x1)), (0, .ref (ad 11)), (1, .int x1)]) hx hb dX8_make_227 rfl hl (by decide) rfl (fun ls hl => ?_)
        refine lv_aload_n hx hb dX8_make_228 rfl (lv_at hl 1 rfl) ?_
        refine lv_iconst (v := 5) hx hb dX8_make_229 (by decide) ?_
        refine lv_bipush (v := 6) hx hb dX8_make_230 (by decide) ?_
        obtain ⟨q232, hq, hf⟩ := ob_bind hf
        refine ax_callVv (b := 0) (i := 11) (k := 2) (ci := 6) [.int 5, .int 6] C0 hT hJ hE (met_X8_sign l dC dI cyI cyE tC ad σ 5 6 _ hq) hP hS mc_X8_sign ml_X8_123 mi_X8_sign ms_X8_sign mz_X8 (by decide +kernel) ⟨rfl, rfl⟩ ⟨by decide, by decide⟩ (by decide) cM_O rfl rfl rfl hl.1 (Nat.le_of_ble_eq_true rfl) dX8_make_232 ⟨Nat.zero_le _, Nat.zero_le _⟩ (fun H locs hP hS => ?_)
        refine lv_aload_n hx hb dX8_make_235 rfl (lv_at hl 1 rfl) ?_
        refine lv_iconst (v := 0) hx hb dX8_make_236 (by decide) ?_
        refine lv_iconst (v := 4) hx hb dX8_make_237 (by decide) ?_
        obtain ⟨q238, hq, hf⟩ := ob_bind hf
        refine ax_callVv (b := 0) (i := 11) (k := 2) (ci := 6) [.int 0, .int 4] C0 hT hJ hE (met_X8_write l dC dI cyI cyE tC ad q232 0 4 _ hq) hP hS mc_X8_write ml_X8_114 mi_X8_write ms_X8_write mz_X8 (by decide +kernel) ⟨rfl, rfl⟩ ⟨by decide, by decide⟩ (by decide) cM_O rfl rfl rfl hl.1 (Nat.le_of_ble_eq_true rfl) dX8_make_238 ⟨Nat.zero_le _, Nat.zero_le _⟩ (fun H locs hP hS => ?_)
        refine lv_aload_n hx hb dX8_make_241 rfl (lv_at hl 1 rfl) ?_
        refine lv_aload_n hx hb dX8_make_242 rfl (lv_at hl 1 rfl) ?_
        refine g_Model_files C0 hT hE hP mf_X8_59 dX8_make_243 ?_
        refine lv_iconst (v := 2) hx hb dX8_make_246 (by decide) ?_
        obtain ⟨q247, hq, hf⟩ := ob_bind hf
        refine ax_callVv (b := 0) (i := 11) (k := 2) (ci := 6) [.int (q238.1 3), .int 2] C0 hT hJ hE (met_X8_write l dC dI cyI cyE tC ad q238 (q238.1 3) 2 _ hq) hP hS mc_X8_write ml_X8_114 mi_X8_write ms_X8_write mz_X8 (by decide +kernel) ⟨rfl, rfl⟩ ⟨by decide, by decide⟩ (by decide) cM_O rfl rfl rfl hl.1 (Nat.le_of_ble_eq_true rfl) dX8_make_247 ⟨Nat.zero_le _, Nat.zero_le _⟩ (fun H locs hP hS => ?_)
        refine lv_aload_n hx hb dX8_make_250 rfl (lv_at hl 1 rfl) ?_
        refine lv_aload_n hx hb dX8_make_251 rfl (lv_at hl 1 rfl) ?_
        refine g_Model_files C0 hT hE hP mf_X8_59 dX8_make_252 ?_
        refine lv_iconst (v := 2) hx hb dX8_make_255 (by decide) ?_
        obtain ⟨q256, hq, hf⟩ := ob_bind hf
        refine ax_callVv (b := 0) (i := 11) (k := 2) (ci := 6) [.int (q247.1 3), .int 2] C0 hT hJ hE (met_X8_write l dC dI cyI cyE tC ad q247 (q247.1 3) 2 _ hq) hP hS mc_X8_write ml_X8_114 mi_X8_write ms_X8_write mz_X8 (by decide +kernel) ⟨rfl, rfl⟩ ⟨by decide, by decide⟩ (by decide) cM_O rfl rfl rfl hl.1 (Nat.le_of_ble_eq_true rfl) dX8_make_256 ⟨Nat.zero_le _, Nat.zero_le _⟩ (fun H locs hP hS => ?_)
        refine lv_aload_n hx hb dX8_make_259 rfl (lv_at hl 1 rfl) ?_
        refine lv_iload_n hx hb dX8_make_260 rfl (lv_at hl 0 rfl) ?_
        refine lv_iconst (v := 4) hx hb dX8_make_261 (by decide) ?_
        obtain ⟨q262, hq, hf⟩ := ob_bind hf
        refine ax_callVv (b := 0) (i := 11) (k := 2) (ci := 6) [.int ((σ.1 2) - x1), .int 4] C0 hT hJ hE (met_X8_write l dC dI cyI cyE tC ad q256 ((σ.1 2) - x1) 4 _ hq) hP hS mc_X8_write ml_X8_114 mi_X8_write ms_X8_write mz_X8 (by decide +kernel) ⟨rfl, rfl⟩ ⟨by decide, by decide⟩ (by decide) cM_O rfl rfl rfl hl.1 (Nat.le_of_ble_eq_true rfl) dX8_make_262 ⟨Nat.zero_le _, Nat.zero_le _⟩ (fun H locs hP hS => ?_)
        refine lv_aload_n hx hb dX8_make_265 rfl (lv_at hl 1 rfl) ?_
        refine lv_iload_n hx hb dX8_make_266 rfl (lv_at hl 2 rfl) ?_
        refine lv_iconst (v := 4) hx hb dX8_make_267 (by decide) ?_
        obtain ⟨q268, hq, hf⟩ := ob_bind hf
        refine ax_callVv (b := 0) (i := 11) (k := 2) (ci := 6) [.int x1, .int 4] C0 hT hJ hE (met_X8_write l dC dI cyI cyE tC ad q262 x1 4 _ hq) hP hS mc_X8_write ml_X8_114 mi_X8_write ms_X8_write mz_X8 (by decide +kernel) ⟨rfl, rfl⟩ ⟨by decide, by decide⟩ (by decide) cM_O rfl rfl rfl hl.1 (Nat.le_of_ble_eq_true rfl) dX8_make_268 ⟨Nat.zero_le _, Nat.zero_le _⟩ (fun H locs hP hS => ?_)
        refine lv_aload_n hx hb dX8_make_271 rfl (lv_at hl 1 rfl) ?_
        refine lv_iconst (v := 0) hx hb dX8_make_272 (by decide) ?_
        refine lv_iconst (v := 2) hx hb dX8_make_273 (by decide) ?_
        obtain ⟨q274, hq, hf⟩ := ob_bind hf
        refine ax_callVv (b := 0) (i := 11) (k := 2) (ci := 6) [.int 0, .int 2] C0 hT hJ hE (met_X8_write l dC dI cyI cyE tC ad q268 0 2 _ hq) hP hS mc_X8_write ml_X8_114 mi_X8_write ms_X8_write mz_X8 (by decide +kernel) ⟨rfl, rfl⟩ ⟨by decide, by decide⟩ (by decide) cM_O rfl rfl rfl hl.1 (Nat.le_of_ble_eq_true rfl) dX8_make_274 ⟨Nat.zero_le _, Nat.zero_le _⟩ (fun H locs hP hS => ?_)
        refine lv_aload_n hx hb dX8_make_277 rfl (lv_at hl 1 rfl) ?_
        refine g_Model_outputSize C0 hT hE hP mf_X8_56 dX8_make_278 ?_
        exact hret _ _ _ _ _ _ rfl hf hP hS dX8_make_281
      · rw [if_neg h158] at hf
        refine lv_aload_n hx hb dX8_make_161 rfl (lv_at hl 0 rfl) ?_
        refine lv_iconst (v := 1) hx hb dX8_make_162 (by decide) ?_
        refine lv_iconst (v := 2) hx hb dX8_make_163 (by decide) ?_
        obtain ⟨q164, hq, hf⟩ := ob_bind hf
        refine ax_callVv (b := 0) (i := 11) (k := 2) (ci := 6) [.int 1, .int 2] C0 hT hJ hE (met_X8_sign l dC dI cyI cyE tC ad σ 1 2 _ hq) hP hS mc_X8_sign ml_X8_123 mi_X8_sign ms_X8_sign mz_X8 (by decide +kernel) ⟨rfl, rfl⟩ ⟨by decide, by decide⟩ (by decide) cM_O rfl rfl rfl hl.1 (Nat.le_of_ble_eq_true rfl) dX8_make_164 ⟨Nat.zero_le _, Nat.zero_le _⟩ (fun H locs hP hS => ?_)
        refine lv_aload_n hx hb dX8_make_167 rfl (lv_at hl 0 rfl) ?_
        refine lv_bipush (v := 20) hx hb dX8_make_168 (by decide) ?_
        refine lv_iconst (v := 2) hx hb dX8_make_170 (by decide) ?_
        obtain ⟨q171, hq, hf⟩ := ob_bind hf
        refine ax_callVv (b := 0) (i := 11) (k := 2) (ci := 6) [.int 20, .int 2] C0 hT hJ hE (met_X8_write l dC dI cyI cyE tC ad q164 20 2 _ hq) hP hS mc_X8_write ml_X8_114 mi_X8_write ms_X8_write mz_X8 (by decide +kernel) ⟨rfl, rfl⟩ ⟨by decide, by decide⟩ (by decide) cM_O rfl rfl rfl hl.1 (Nat.le_of_ble_eq_true rfl) dX8_make_171 ⟨Nat.zero_le _, Nat.zero_le _⟩ (fun H locs hP hS => ?_)
        refine lv_aload_n hx hb dX8_make_174 rfl (lv_at hl 0 rfl) ?_
        refine lv_bipush (v := 20) hx hb dX8_make_175 (by decide) ?_
        refine lv_iconst (v := 2) hx hb dX8_make_177 (by decide) ?_
        obtain ⟨q178, hq, hf⟩ := ob_bind hf
        refine ax_callVv (b := 0) (i := 11) (k := 2) (ci := 6) [.int 20, .int 2] C0 hT hJ hE (met_X8_write l dC dI cyI cyE tC ad q171 20 2 _ hq) hP hS mc_X8_write ml_X8_114 mi_X8_write ms_X8_write mz_X8 (by decide +kernel) ⟨rfl, rfl⟩ ⟨by decide, by decide⟩ (by decide) cM_O rfl rfl rfl hl.1 (Nat.le_of_ble_eq_true rfl) dX8_make_178 ⟨Nat.zero_le _, Nat.zero_le _⟩ (fun H locs hP hS => ?_)
        refine lv_aload_n hx hb dX8_make_181 rfl (lv_at hl 0 rfl) ?_
        refine lv_iload_n hx hb dX8_make_182 rfl (lv_at hl 2 rfl) ?_
        obtain ⟨q183, hq, hf⟩ := ob_bind hf
        refine ax_callVv (b := 0) (i := 11) (k := 1) (ci := 6) [.int x2] C0 hT hJ hE (met_X8_writeFacts l dC dI cyI cyE tC ad q178 x2 _ hq) hP hS mc_X8_writeFacts ml_X8_126 mi_X8_writeFacts ms_X8_writeFacts mz_X8 (by decide +kernel) ⟨rfl, rfl⟩ ⟨by decide, by decide⟩ (by decide) cM_O rfl rfl rfl hl.1 (Nat.le_of_ble_eq_true rfl) dX8_make_183 ⟨Nat.zero_le _, Nat.zero_le _⟩ (fun H locs hP hS => ?_)
        refine lv_aload_n hx hb dX8_make_186 rfl (lv_at hl 0 rfl) ?_
        refine lv_iconst (v := 0) hx hb dX8_make_187 (by decide) ?_
        refine lv_bipush (v := 8) hx hb dX8_make_188 (by decide) ?_
        obtain ⟨q190, hq, hf⟩ := ob_bind hf
        refine ax_callVv (b := 0) (i := 11) (k := 2) (ci := 6) [.int 0, .int 8] C0 hT hJ hE (met_X8_write l dC dI cyI cyE tC ad q183 0 8 _ hq) hP hS mc_X8_write ml_X8_114 mi_X8_write ms_X8_write mz_X8 (by decide +kernel) ⟨rfl, rfl⟩ ⟨by decide, by decide⟩ (by decide) cM_O rfl rfl rfl hl.1 (Nat.le_of_ble_eq_true rfl) dX8_make_190 ⟨Nat.zero_le _, Nat.zero_le _⟩ (fun H locs hP hS => ?_)
        refine lv_aload_n hx hb dX8_make_193 rfl (lv_at hl 0 rfl) ?_
        refine lv_iconst (v := 0) hx hb dX8_make_194 (by decide) ?_
        refine lv_iconst (v := 4) hx hb dX8_make_195 (by decide) ?_
        obtain ⟨q196, hq, hf⟩ := ob_bind hf
        refine ax_callVv (b := 0) (i := 11) (k := 2) (ci := 6) [.int 0, .int 4] C0 hT hJ hE (met_X8_write l dC dI cyI cyE tC ad q190 0 4 _ hq) hP hS mc_X8_write ml_X8_114 mi_X8_write ms_X8_write mz_X8 (by decide +kernel) ⟨rfl, rfl⟩ ⟨by decide, by decide⟩ (by decide) cM_O rfl rfl rfl hl.1 (Nat.le_of_ble_eq_true rfl) dX8_make_196 ⟨Nat.zero_le _, Nat.zero_le _⟩ (fun H locs hP hS => ?_)
        refine lv_aload_n hx hb dX8_make_199 rfl (lv_at hl 0 rfl) ?_
        refine lv_aload_n hx hb dX8_make_200 rfl (lv_at hl 0 rfl) ?_
        refine g_Model_where C0 hT hE hP mf_X8_47 dX8_make_201 ?_
        refine lv_iload_n hx hb dX8_make_204 rfl (lv_at hl 2 rfl) ?_
        obtain ⟨hin, hf⟩ := ob_if hf
        refine aM_ld (a := 10) (by decide) C0 hT hE hP (inb_in hin) dX8_make_205 ?_
        refine lv_iconst (v := 4) hx hb dX8_make_206 (by decide) ?_
        obtain ⟨q207, hq, hf⟩ := ob_bind hf
        refine ax_callVv (b := 0) (i := 11) (k := 2) (ci := 6) [.int (q196.2 10 x2.toNatClampNeg), .int 4] C0 hT hJ hE (met_X8_write l dC dI cyI cyE tC ad q196 (q196.2 10 x2.toNatClampNeg) 4 _ hq) hP hS mc_X8_write ml_X8_114 mi_X8_write ms_X8_write mz_X8 (by decide +kernel) ⟨rfl, rfl⟩ ⟨by decide, by decide⟩ (by decide) cM_O rfl rfl rfl hl.1 (Nat.le_of_ble_eq_true rfl) dX8_make_207 ⟨Nat.zero_le _, Nat.zero_le _⟩ (fun H locs hP hS => ?_)
        refine lv_aload_n hx hb dX8_make_210 rfl (lv_at hl 0 rfl) ?_
        refine lv_iload_n hx hb dX8_make_211 rfl (lv_at hl 2 rfl) ?_
        obtain ⟨q212, hq, hf⟩ := ob_bind hf
        refine ax_callVv (b := 0) (i := 11) (k := 1) (ci := 6) [.int x2] C0 hT hJ hE (met_X8_writeName l dC dI cyI cyE tC ad q207 x2 _ hq) hP hS mc_X8_writeName ml_X8_129 mi_X8_writeName ms_X8_writeName mz_X8 (by decide +kernel) ⟨rfl, rfl⟩ ⟨by decide, by decide⟩ (by decide) cM_O rfl rfl rfl hl.1 (Nat.le_of_ble_eq_true rfl) dX8_make_212 ⟨Nat.zero_le _, Nat.zero_le _⟩ (fun H locs hP hS => ?_)
        refine lv_iinc (v := x2 + 1) (lv' := [(2, .int (x2 + 1)), (0, .ref (ad 11)), (1, .int x1)]) hx hb dX8_make_215 hl (k := 2) rfl rfl (by decide) rfl (fun ls hl => ?_)
        refine lv_goto (tgt := 153) hx hb dX8_make_218 (by decide) ?_
        exact ih _ _ _ _ _ _ hP hS (lv_sub hl [1, 2, 0] rfl) hf
  have L12 : ∀ (n : Nat), ∀ (σ : SM) (x1 : Int32), ∀ (H : Heap) (locs : List Loc) (ls : Array Slot), va_P (dC, dI) vwCl (ax_w 12 ad (cM cyI ad σ)) H → va_S (ax_A 12 ad s.heap.size) s.heap H locs → lv_has ls 5 [(0, .ref (ad 11)), (1, .int x1)] → f_X8_make_12 n σ x1 = some res → W p l e rm_X8_make s m args below meth c H locs 0 0 Q (F0 m 12 ls []) := by
    intro n
    induction n with
    | zero =>
      intro σ x1  H locs ls hP hS hl hf
      cases hf
    | succ n ih =>
      intro σ x1  H locs ls hP hS hl hf
      rw [f_X8_make_12] at hf
      refine lv_iload_n hx hb dX8_make_12 rfl (lv_at hl 1 rfl) ?_
      refine lv_aload_n hx hb dX8_make_13 rfl (lv_at hl 0 rfl) ?_
      refine g_Model_files C0 hT hE hP mf_X8_59 dX8_make_14 ?_
      refine lv_icmp_ge (tgt := 146) hx hb dX8_make_17 (by decide) (fun h17 => ?_) (fun h17 => ?_)
      · rw [if_pos h17] at hf
        refine lv_aload_n hx hb dX8_make_146 rfl (lv_at hl 0 rfl) ?_
        refine g_Model_outputSize C0 hT hE hP mf_X8_56 dX8_make_147 ?_
        refine lv_istore_n (lv' := [(1, .int (σ.1 2)), (0, .ref (ad 11))]) hx hb dX8_make_150 rfl hl (by decide) rfl (fun ls hl => ?_)
        refine lv_iconst (v := 0) hx hb dX8_make_151 (by decide) ?_
        refine lv_istore_n (lv' := [(2, .int 0), (1, .int (σ.1 2)), (0, .ref (ad 11))]) hx hb dX8_make_152 rfl hl (by decide) rfl (fun ls hl => ?_)
        exact L153 fu _ _ _ _ _ _ hP hS (lv_sub hl [2, 1, 0] rfl) hf
      · rw [if_neg h17] at hf
        refine lv_aload_n hx hb dX8_make_20 rfl (lv_at hl 0 rfl) ?_
        refine g_Model_where C0 hT hE hP mf_X8_47 dX8_make_21 ?_
        refine lv_iload_n hx hb dX8_make_24 rfl (lv_at hl 1 rfl) ?_
        refine lv_aload_n hx hb dX8_make_25 rfl (lv_at hl 0 rfl) ?_
        refine g_Model_outputSize C0 hT hE hP mf_X8_56 dX8_make_26 ?_
        obtain ⟨hin, hf⟩ := ob_if hf
        refine aM_st (a := 10) (by decide) C0 hT hE hJ hP hS (inb_in hin) dX8_make_29 (fun H locs hP hS => ?_)
        refine lv_aload_n hx hb dX8_make_30 rfl (lv_at hl 0 rfl) ?_
        refine lv_iconst (v := 3) hx hb dX8_make_31 (by decide) ?_
        refine lv_iconst (v := 4) hx hb dX8_make_32 (by decide) ?_
        obtain ⟨q33, hq, hf⟩ := ob_bind hf
        refine ax_callVv (b := 0) (i := 11) (k := 2) (ci := 6) [.int 3, .int 4] C0 hT hJ hE (met_X8_sign l dC dI cyI cyE tC ad (SMc σ 10 (upd (σ.2 10) x1.toNatClampNeg (σ.1 2))) 3 4 _ hq) hP hS mc_X8_sign ml_X8_123 mi_X8_sign ms_X8_sign mz_X8 (by decide +kernel) ⟨rfl, rfl⟩ ⟨by decide, by decide⟩ (by decide) cM_O rfl rfl rfl hl.1 (Nat.le_of_ble_eq_true rfl) dX8_make_33 ⟨Nat.zero_le _, Nat.zero_le _⟩ (fun H locs hP hS => ?_)
        refine lv_aload_n hx hb dX8_make_36 rfl (lv_at hl 0 rfl) ?_
        refine lv_bipush (v := 20) hx hb dX8_make_37 (by decide) ?_
        refine lv_iconst (v := 2) hx hb dX8_make_39 (by decide) ?_
        obtain ⟨q40, hq, hf⟩ := ob_bind hf
        refine ax_callVv (b := 0) (i := 11) (k := 2) (ci := 6) [.int 20, .int 2] C0 hT hJ hE (met_X8_write l dC dI cyI cyE tC ad q33 20 2 _ hq) hP hS mc_X8_write ml_X8_114 mi_X8_write ms_X8_write mz_X8 (by decide +kernel) ⟨rfl, rfl⟩ ⟨by decide, by decide⟩ (by decide) cM_O rfl rfl rfl hl.1 (Nat.le_of_ble_eq_true rfl) dX8_make_40 ⟨Nat.zero_le _, Nat.zero_le _⟩ (fun H locs hP hS => ?_)
        refine lv_aload_n hx hb dX8_make_43 rfl (lv_at hl 0 rfl) ?_
        refine lv_iload_n hx hb dX8_make_44 rfl (lv_at hl 1 rfl) ?_
        obtain ⟨q45, hq, hf⟩ := ob_bind hf
        refine ax_callVv (b := 0) (i := 11) (k := 1) (ci := 6) [.int x1] C0 hT hJ hE (met_X8_writeFacts l dC dI cyI cyE tC ad q40 x1 _ hq) hP hS mc_X8_writeFacts ml_X8_126 mi_X8_writeFacts ms_X8_writeFacts mz_X8 (by decide +kernel) ⟨rfl, rfl⟩ ⟨by decide, by decide⟩ (by decide) cM_O rfl rfl rfl hl.1 (Nat.le_of_ble_eq_true rfl) dX8_make_45 ⟨Nat.zero_le _, Nat.zero_le _⟩ (fun H locs hP hS => ?_)
        refine lv_aload_n hx hb dX8_make_48 rfl (lv_at hl 0 rfl) ?_
        refine lv_iconst (v := 0) hx hb dX8_make_49 (by decide) ?_
        refine lv_iconst (v := 2) hx hb dX8_make_50 (by decide) ?_
        obtain ⟨q51, hq, hf⟩ := ob_bind hf
        refine ax_callVv (b := 0) (i := 11) (k := 2) (ci := 6) [.int 0, .int 2] C0 hT hJ hE (met_X8_write l dC dI cyI cyE tC ad q45 0 2 _ hq) hP hS mc_X8_write ml_X8_114 mi_X8_write ms_X8_write mz_X8 (by decide +kernel) ⟨rfl, rfl⟩ ⟨by decide, by decide⟩ (by decide) cM_O rfl rfl rfl hl.1 (Nat.le_of_ble_eq_true rfl) dX8_make_51 ⟨Nat.zero_le _, Nat.zero_le _⟩ (fun H locs hP hS => ?_)
        refine lv_aload_n hx hb dX8_make_54 rfl (lv_at hl 0 rfl) ?_
        refine lv_iload_n hx hb dX8_make_55 rfl (lv_at hl 1 rfl) ?_
        obtain ⟨q56, hq, hf⟩ := ob_bind hf
        refine ax_callVv (b := 0) (i := 11) (k := 1) (ci := 6) [.int x1] C0 hT hJ hE (met_X8_writeName l dC dI cyI cyE tC ad q51 x1 _ hq) hP hS mc_X8_writeName ml_X8_129 mi_X8_writeName ms_X8_writeName mz_X8 (by decide +kernel) ⟨rfl, rfl⟩ ⟨by decide, by decide⟩ (by decide) cM_O rfl rfl rfl hl.1 (Nat.le_of_ble_eq_true rfl) dX8_make_56 ⟨Nat.zero_le _, Nat.zero_le _⟩ (fun H locs hP hS => ?_)
        refine lv_aload_n hx hb dX8_make_59 rfl (lv_at hl 0 rfl) ?_
        refine lv_iload_n hx hb dX8_make_60 rfl (lv_at hl 1 rfl) ?_
        obtain ⟨q61, hq, hf⟩ := ob_bind hf
        refine ax_callVi (C := "") (b := 0) (i := 11) (k := 1) (ci := 6) [.int x1] C0 hT hJ hE (met_X8_method l dC dI cyI cyE tC ad q56 x1 _ hq) hP hS mc_X8_method ml_X8_109 mi_X8_method ms_X8_method mz_X8 (by decide +kernel) ⟨rfl, rfl⟩ ⟨by decide, by decide⟩ (by decide) cM_O rfl rfl rfl hl.1 (Nat.le_of_ble_eq_true rfl) dX8_make_61 ⟨Nat.zero_le _, Nat.zero_le _⟩ (fun H locs hP hS => ?_)
        refine lv_bipush (v := 99) hx hb dX8_make_64 (by decide) ?_
        refine lv_icmp_ne (tgt := 73) hx hb dX8_make_66 (by decide) (fun h66 => ?_) (fun h66 => ?_)
        · rw [if_neg h66] at hf
          refine lv_iconst (v := 0) hx hb dX8_make_73 (by decide) ?_
          exact L74 _ ih _ _ _ _ _ _ hP hS (lv_sub hl [0, 1] rfl) hf
        · rw [if_pos h66] at hf
          refine lv_iconst (v := 1) hx hb dX8_make_69 (by decide) ?_
          refine lv_goto (tgt := 74) hx hb dX8_make_70 (by decide) ?_
          exact L74 _ ih _ _ _ _ _ _ hP hS (lv_sub hl [0, 1] rfl) hf
  unfold f_X8_make at hf
  refine lv_aload_n hx hb dX8_make_0 rfl (lv_at hl 0 rfl) ?_
  refine lv_iconst (v := 0) hx hb dX8_make_1 (by decide) ?_
  refine p_Model_thrown C0 hT hE hJ hP hS mf_X8_50 dX8_make_2 (fun H locs hP hS => ?_)
  refine lv_aload_n hx hb dX8_make_5 rfl (lv_at hl 0 rfl) ?_
  refine lv_iconst (v := 0) hx hb dX8_make_6 (by decide) ?_
  refine p_Model_outputSize C0 hT hE hJ hP hS mf_X8_56 dX8_make_7 (fun H locs hP hS => ?_)
  refine lv_iconst (v := 0) hx hb dX8_make_10 (by decide) ?_
  refine lv_istore_n (lv' := [(1, .int 0), (0, .ref (ad 11))]) hx hb dX8_make_11 rfl hl (by decide) rfl (fun ls hl => ?_)
  exact L12 fu _ _ _ _ _ hP hS (lv_sub hl [1, 0] rfl) hf
def f_X8_number_7 (x1 : Int32) (x2 : Int32) : Nat → SM → Int64 → Int32 → Option (Int32 × SM)
  | 0, _, _, _ => none
  | n + 1, σ, x3, x5 => if x5 < 0 then (if (lg_cmp x3 2147483647) ≤ 0 then (some (x3.toInt32, σ)) else (some (2147483647, σ))) else (if inb (x1 + x5) (capM 1) = true then (f_X8_number_7 x1 x2 n σ ((x3 <<< ((8 : Int32).toInt64 &&& 63)) ||| ((σ.2 1 (x1 + x5).toNatClampNeg).toInt64)) (x5 + (-1))) else none)
def f_X8_number (σ : SM) (x1 : Int32) (x2 : Int32) : Option (Int32 × SM) := f_X8_number_7 x1 x2 fu σ 0 (x2 - 1)
def rm_X8_number : Room := { frames := 0, cells := 0, slots := 0, locals := 0 }
set_option maxHeartbeats 4000000 in
set_option maxRecDepth 100000 in
theorem met_X8_number (l : Launch) (dC : Nat → ClassId) (dI : Nat → Nat → Nat) (cyI cyE : ClassId) (tC : Nat) (ad : Nat → Nat) (σ : SM) (x1 : Int32) (x2 : Int32) (res : Int32 × SM) (hf : f_X8_number σ x1 x2 = some res) : ax_Mi l dC dI cyI cyE tC 12 (cM cyI ad) ad yX8_number cX8_number 6 (some .int) rm_X8_number [.ref (ad 11), .int x1, .int x2] σ res.1 res.2 := by
  intro sz
  refine Met.ofW (cc := cX8_number) (maxL := 6) (ret := (some .int)) (by decide) rfl ?_
  intro p e s m args below meth c s₁ B hml hv
  obtain ⟨hargs, hsz, hP, hJ, hE⟩ := hv
  subst hsz
  have hx := B.exec
  have hb := B.bytes
  have hr := B.returns
  have hlocks := B.notSynchronized
  have hts := atoms_spec (ws := wsY yX8_number cX8_number 6 (some .int)) B.pre
  have hown : s.vm.findClass RX8 = some m.cls := findClass_of_methodNamed B.named
  have C0 : CallFix p m c cX8_number 6 s args (wsY yX8_number cX8_number 6 (some .int)) RX8 := ⟨hx, hb, hml, hown, hts⟩
  have hT : ∀ w ∈ bw, w ∈ wsY yX8_number cX8_number 6 (some .int) := fun w h => List.mem_cons_of_mem _ h
  have hS : va_S (ax_A 12 ad s.heap.size) s.heap s.heap [] := va_S.rf
  rw [show entryFrame m args 6 = entryFrame m ([.ref (ad 11), .int x1, .int x2] : List Value).toArray 6 by rw [hargs]]
  have hl := lv_entry ([.ref (ad 11), .int x1, .int x2]) (n := 6) (Nat.le_of_ble_eq_true rfl)
  rw [lg_entry_eq]
  generalize (lg_sl ([.ref (ad 11), .int x1, .int x2]) ++ List.replicate (6 - (lg_sl ([.ref (ad 11), .int x1, .int x2])).length) Slot.unset).toArray = ls at hl ⊢
  have hl : lv_has ls 6 [(0, .ref (ad 11)), (1, .int x1), (2, .int x2)] := hl
  obtain ⟨Q, hQ⟩ : ∃ Q : State → Prop, Q = MQ below (va_Qi (fun (a : Int32) (u : SM) => a = res.1 ∧ u = res.2) (ax_B dC dI 12 (cM cyI ad) ad) (ax_A 12 ad s.heap.size)) args s 0 0 (ax_A 12 ad s.heap.size) := ⟨_, rfl⟩
  show W p l e rm_X8_number s m args below meth c s.heap [] 0 0 _ _
  rw [← hQ]
  have hret : ∀ (v : Int32) (σ : SM) (H : Heap) (locs : List Loc) (ls : Array Slot) (pc : Nat), narrow .int (.int v) = .int v → some (v, σ) = some res → va_P (dC, dI) vwCl (ax_w 12 ad (cM cyI ad σ)) H → va_S (ax_A 12 ad s.heap.size) s.heap H locs → decode cX8_number pc = .ok (.ireturn, 1) → W p l e rm_X8_number s m args below meth c H locs 0 0 Q (F0 m pc ls [.int v]) := by
    intro v σ H locs ls pc hn hf hP hS hd
    cases hf
    rw [hQ]
    exact ax_iret hx hb hr hlocks hn hP hS hd rfl rfl
  have L7 : ∀ (n : Nat), ∀ (σ : SM) (x3 : Int64) (x5 : Int32), ∀ (H : Heap) (locs : List Loc) (ls : Array Slot), va_P (dC, dI) vwCl (ax_w 12 ad (cM cyI ad σ)) H → va_S (ax_A 12 ad s.heap.size) s.heap H locs → lv_has ls 6 [(0, .ref (ad 11)), (1, .int x1), (3, .long x3), (5, .int x5)] → f_X8_number_7 x1 x2 n σ x3 x5 = some res → W p l e rm_X8_number s m args below meth c H locs 0 0 Q (F0 m 7 ls []) := by
    intro n
    induction n with
    | zero =>
      intro σ x3 x5  H locs ls hP hS hl hf
      cases hf
    | succ n ih =>
      intro σ x3 x5  H locs ls hP hS hl hf
      rw [f_X8_number_7] at hf
      refine lv_iload hx hb dX8_number_7 (lv_at hl 3 rfl) ?_
      refine lv_if_lt (tgt := 34) hx hb dX8_number_9 (by decide) (fun h9 => ?_) (fun h9 => ?_)
      · rw [if_pos h9] at hf
        refine lv_lload_n hx hb dX8_number_34 rfl (lv_at hl 2 rfl) ?_
        refine lv_ldc2 (own := RX8) (v := 2147483647) hx hb hown (C0.2.2.2.2 _ (hT _ mk_X8_132)) dX8_number_35 ?_
        refine W.lcmp hx hb dX8_number_38 ?_
        refine lv_if_le (tgt := 47) hx hb dX8_number_39 (by decide) (fun h39 => ?_) (fun h39 => ?_)
        · rw [if_pos h39] at hf
          refine lv_lload_n hx hb dX8_number_47 rfl (lv_at hl 2 rfl) ?_
          refine lv_l2i hx hb dX8_number_48 rfl ?_
          exact hret _ _ _ _ _ _ rfl hf hP hS dX8_number_49
        · rw [if_neg h39] at hf
          refine lv_ldc (own := RX8) (v := 2147483647) hx hb hown (C0.2.2.2.2 _ (hT _ mk_X8_134)) dX8_number_42 ?_
          refine lv_goto (tgt := 49) hx hb dX8_number_44 (by decide) ?_
          exact hret _ _ _ _ _ _ rfl hf hP hS dX8_number_49
      · rw [if_neg h9] at hf
        refine lv_lload_n hx hb dX8_number_12 rfl (lv_at hl 2 rfl) ?_
        refine lv_bipush (v := 8) hx hb dX8_number_13 (by decide) ?_
        refine lv_lshl hx hb dX8_number_15 rfl ?_
        refine lv_aload_n hx hb dX8_number_16 rfl (lv_at hl 0 rfl) ?_
        refine g_Model_tape C0 hT hE hP mf_X8_13 dX8_number_17 ?_
        refine lv_iload_n hx hb dX8_number_20 rfl (lv_at hl 1 rfl) ?_
        refine lv_iload hx hb dX8_number_21 (lv_at hl 3 rfl) ?_
        refine lv_iadd hx hb dX8_number_23 ?_
        obtain ⟨hin, hf⟩ := ob_if hf
        refine aM_ld (a := 1) (by decide) C0 hT hE hP (inb_in hin) dX8_number_24 ?_
        refine lv_i2l hx hb dX8_number_25 rfl ?_
        refine lv_lor hx hb dX8_number_26 ?_
        refine lv_lstore_n (lv' := [(3, .long ((x3 <<< ((8 : Int32).toInt64 &&& 63)) ||| ((σ.2 1 (x1 + x5).toNatClampNeg).toInt64))), (0, .ref (ad 11)), (1, .int x1), (5, .int x5)]) hx hb dX8_number_27 rfl hl (by decide) rfl (fun ls hl => ?_)
        refine lv_iinc (v := x5 + (-1)) (lv' := [(5, .int (x5 + (-1))), (3, .long ((x3 <<< ((8 : Int32).toInt64 &&& 63)) ||| ((σ.2 1 (x1 + x5).toNatClampNeg).toInt64))), (0, .ref (ad 11)), (1, .int x1)]) hx hb dX8_number_28 hl (k := 3) rfl rfl (by decide) rfl (fun ls hl => ?_)
        refine lv_goto (tgt := 7) hx hb dX8_number_31 (by decide) ?_
        exact ih _ _ _ _ _ _ hP hS (lv_sub hl [2, 3, 1, 0] rfl) hf
  unfold f_X8_number at hf
  refine lv_lconst (v := 0) hx hb dX8_number_0 (by decide) ?_
  refine lv_lstore_n (lv' := [(3, .long 0), (0, .ref (ad 11)), (1, .int x1), (2, .int x2)]) hx hb dX8_number_1 rfl hl (by decide) rfl (fun ls hl => ?_)
  refine lv_iload_n hx hb dX8_number_2 rfl (lv_at hl 3 rfl) ?_
  refine lv_iconst (v := 1) hx hb dX8_number_3 (by decide) ?_
  refine lv_isub hx hb dX8_number_4 ?_
  refine lv_istore (lv' := [(5, .int (x2 - 1)), (3, .long 0), (0, .ref (ad 11)), (1, .int x1), (2, .int x2)]) hx hb dX8_number_5 hl (by decide) rfl (fun ls hl => ?_)
  exact L7 fu _ _ _ _ _ _ hP hS (lv_sub hl [2, 3, 1, 0] rfl) hf
def f_X8_is (σ : SM) (x1 : Int32) (x2 : Int32) (x3 : Int32) : Option (Int32 × SM) := (f_X8_number σ x1 x2).bind fun q3 => if q3.1 = x3 then (some (1, q3.2)) else (some (0, q3.2))
def rm_X8_is : Room := { frames := 1, cells := 0, slots := 0, locals := 25 }
set_option maxHeartbeats 4000000 in
set_option maxRecDepth 100000 in
theorem met_X8_is (l : Launch) (dC : Nat → ClassId) (dI : Nat → Nat → Nat) (cyI cyE : ClassId) (tC : Nat) (ad : Nat → Nat) (σ : SM) (x1 : Int32) (x2 : Int32) (x3 : Int32) (res : Int32 × SM) (hf : f_X8_is σ x1 x2 x3 = some res) : ax_Mi l dC dI cyI cyE tC 12 (cM cyI ad) ad yX8_is cX8_is 4 (some .boolean) rm_X8_is [.ref (ad 11), .int x1, .int x2, .int x3] σ res.1 res.2 := by
  intro sz
  refine Met.ofW (cc := cX8_is) (maxL := 4) (ret := (some .boolean)) (by decide) rfl ?_
  intro p e s m args below meth c s₁ B hml hv
  obtain ⟨hargs, hsz, hP, hJ, hE⟩ := hv
  subst hsz
  have hx := B.exec
  have hb := B.bytes
  have hr := B.returns
  have hlocks := B.notSynchronized
  have hts := atoms_spec (ws := wsY yX8_is cX8_is 4 (some .boolean)) B.pre
  have hown : s.vm.findClass RX8 = some m.cls := findClass_of_methodNamed B.named
  have C0 : CallFix p m c cX8_is 4 s args (wsY yX8_is cX8_is 4 (some .boolean)) RX8 := ⟨hx, hb, hml, hown, hts⟩
  have hT : ∀ w ∈ bw, w ∈ wsY yX8_is cX8_is 4 (some .boolean) := fun w h => List.mem_cons_of_mem _ h
  have hS : va_S (ax_A 12 ad s.heap.size) s.heap s.heap [] := va_S.rf
  rw [show entryFrame m args 4 = entryFrame m ([.ref (ad 11), .int x1, .int x2, .int x3] : List Value).toArray 4 by rw [hargs]]
  have hl := lv_entry ([.ref (ad 11), .int x1, .int x2, .int x3]) (n := 4) (Nat.le_of_ble_eq_true rfl)
  rw [lg_entry_eq]
  generalize (lg_sl ([.ref (ad 11), .int x1, .int x2, .int x3]) ++ List.replicate (4 - (lg_sl ([.ref (ad 11), .int x1, .int x2, .int x3])).length) Slot.unset).toArray = ls at hl ⊢
  have hl : lv_has ls 4 [(0, .ref (ad 11)), (1, .int x1), (2, .int x2), (3, .int x3)] := hl
  obtain ⟨Q, hQ⟩ : ∃ Q : State → Prop, Q = MQ below (va_Qi (fun (a : Int32) (u : SM) => a = res.1 ∧ u = res.2) (ax_B dC dI 12 (cM cyI ad) ad) (ax_A 12 ad s.heap.size)) args s 0 0 (ax_A 12 ad s.heap.size) := ⟨_, rfl⟩
  show W p l e rm_X8_is s m args below meth c s.heap [] 0 0 _ _
  rw [← hQ]
  have hret : ∀ (v : Int32) (σ : SM) (H : Heap) (locs : List Loc) (ls : Array Slot) (pc : Nat), narrow .boolean (.int v) = .int v → some (v, σ) = some res → va_P (dC, dI) vwCl (ax_w 12 ad (cM cyI ad σ)) H → va_S (ax_A 12 ad s.heap.size) s.heap H locs → decode cX8_is pc = .ok (.ireturn, 1) → W p l e rm_X8_is s m args below meth c H locs 0 0 Q (F0 m pc ls [.int v]) := by
    intro v σ H locs ls pc hn hf hP hS hd
    cases hf
    rw [hQ]
    exact ax_iret hx hb hr hlocks hn hP hS hd rfl rfl
  unfold f_X8_is at hf
  refine lv_aload_n hx hb dX8_is_0 rfl (lv_at hl 0 rfl) ?_
  refine lv_iload_n hx hb dX8_is_1 rfl (lv_at hl 1 rfl) ?_
  refine lv_iload_n hx hb dX8_is_2 rfl (lv_at hl 2 rfl) ?_
  obtain ⟨q3, hq, hf⟩ := ob_bind hf
  refine ax_callVi (C := "") (b := 0) (i := 11) (k := 2) (ci := 6) [.int x1, .int x2] C0 hT hJ hE (met_X8_number l dC dI cyI cyE tC ad σ x1 x2 _ hq) hP hS mc_X8_number ml_X8_135 mi_X8_number ms_X8_number mz_X8 (by decide +kernel) ⟨rfl, rfl⟩ ⟨by decide, by decide⟩ (by decide) cM_O rfl rfl rfl hl.1 (Nat.le_of_ble_eq_true rfl) dX8_is_3 ⟨Nat.zero_le _, Nat.zero_le _⟩ (fun H locs hP hS => ?_)
  refine lv_iload_n hx hb dX8_is_6 rfl (lv_at hl 3 rfl) ?_
  refine lv_icmp_ne (tgt := 14) hx hb dX8_is_7 (by decide) (fun h7 => ?_) (fun h7 => ?_)
  · rw [if_neg h7] at hf
    refine lv_iconst (v := 0) hx hb dX8_is_14 (by decide) ?_
    exact hret _ _ _ _ _ _ rfl hf hP hS dX8_is_15
  · rw [if_pos h7] at hf
    refine lv_iconst (v := 1) hx hb dX8_is_10 (by decide) ?_
    refine lv_goto (tgt := 15) hx hb dX8_is_11 (by decide) ?_
    exact hret _ _ _ _ _ _ rfl hf hP hS dX8_is_15
def f_X8_isSign (σ : SM) (x1 : Int32) (x2 : Int32) (x3 : Int32) : Option (Int32 × SM) := if inb x1 (capM 1) = true then (if (σ.2 1 x1.toNatClampNeg) = 80 then (if inb (x1 + 1) (capM 1) = true then (if (σ.2 1 (x1 + 1).toNatClampNeg) = 75 then (if inb (x1 + 2) (capM 1) = true then (if (σ.2 1 (x1 + 2).toNatClampNeg) = x2 then (if inb (x1 + 3) (capM 1) = true then (if (σ.2 1 (x1 + 3).toNatClampNeg) = x3 then (some (1, σ)) else (some (0, σ))) else none) else (some (0, σ))) else none) else (some (0, σ))) else none) else (some (0, σ))) else none
def rm_X8_isSign : Room := { frames := 0, cells := 0, slots := 0, locals := 0 }
set_option maxHeartbeats 4000000 in
set_option maxRecDepth 100000 in
theorem met_X8_isSign (l : Launch) (dC : Nat → ClassId) (dI : Nat → Nat → Nat) (cyI cyE : ClassId) (tC : Nat) (ad : Nat → Nat) (σ : SM) (x1 : Int32) (x2 : Int32) (x3 : Int32) (res : Int32 × SM) (hf : f_X8_isSign σ x1 x2 x3 = some res) : ax_Mi l dC dI cyI cyE tC 12 (cM cyI ad) ad yX8_isSign cX8_isSign 4 (some .boolean) rm_X8_isSign [.ref (ad 11), .int x1, .int x2, .int x3] σ res.1 res.2 := by
  intro sz
  refine Met.ofW (cc := cX8_isSign) (maxL := 4) (ret := (some .boolean)) (by decide) rfl ?_
  intro p e s m args below meth c s₁ B hml hv
  obtain ⟨hargs, hsz, hP, hJ, hE⟩ := hv
  subst hsz
  have hx := B.exec
  have hb := B.bytes
  have hr := B.returns
  have hlocks := B.notSynchronized
  have hts := atoms_spec (ws := wsY yX8_isSign cX8_isSign 4 (some .boolean)) B.pre
  have hown : s.vm.findClass RX8 = some m.cls := findClass_of_methodNamed B.named
  have C0 : CallFix p m c cX8_isSign 4 s args (wsY yX8_isSign cX8_isSign 4 (some .boolean)) RX8 := ⟨hx, hb, hml, hown, hts⟩
  have hT : ∀ w ∈ bw, w ∈ wsY yX8_isSign cX8_isSign 4 (some .boolean) := fun w h => List.mem_cons_of_mem _ h
  have hS : va_S (ax_A 12 ad s.heap.size) s.heap s.heap [] := va_S.rf
  rw [show entryFrame m args 4 = entryFrame m ([.ref (ad 11), .int x1, .int x2, .int x3] : List Value).toArray 4 by rw [hargs]]
  have hl := lv_entry ([.ref (ad 11), .int x1, .int x2, .int x3]) (n := 4) (Nat.le_of_ble_eq_true rfl)
  rw [lg_entry_eq]
  generalize (lg_sl ([.ref (ad 11), .int x1, .int x2, .int x3]) ++ List.replicate (4 - (lg_sl ([.ref (ad 11), .int x1, .int x2, .int x3])).length) Slot.unset).toArray = ls at hl ⊢
  have hl : lv_has ls 4 [(0, .ref (ad 11)), (1, .int x1), (2, .int x2), (3, .int x3)] := hl
  obtain ⟨Q, hQ⟩ : ∃ Q : State → Prop, Q = MQ below (va_Qi (fun (a : Int32) (u : SM) => a = res.1 ∧ u = res.2) (ax_B dC dI 12 (cM cyI ad) ad) (ax_A 12 ad s.heap.size)) args s 0 0 (ax_A 12 ad s.heap.size) := ⟨_, rfl⟩
  show W p l e rm_X8_isSign s m args below meth c s.heap [] 0 0 _ _
  rw [← hQ]
  have hret : ∀ (v : Int32) (σ : SM) (H : Heap) (locs : List Loc) (ls : Array Slot) (pc : Nat), narrow .boolean (.int v) = .int v → some (v, σ) = some res → va_P (dC, dI) vwCl (ax_w 12 ad (cM cyI ad σ)) H → va_S (ax_A 12 ad s.heap.size) s.heap H locs → decode cX8_isSign pc = .ok (.ireturn, 1) → W p l e rm_X8_isSign s m args below meth c H locs 0 0 Q (F0 m pc ls [.int v]) := by
    intro v σ H locs ls pc hn hf hP hS hd
    cases hf
    rw [hQ]
    exact ax_iret hx hb hr hlocks hn hP hS hd rfl rfl
  unfold f_X8_isSign at hf
  refine lv_aload_n hx hb dX8_isSign_0 rfl (lv_at hl 0 rfl) ?_
  refine g_Model_tape C0 hT hE hP mf_X8_13 dX8_isSign_1 ?_
  refine lv_iload_n hx hb dX8_isSign_4 rfl (lv_at hl 1 rfl) ?_
  obtain ⟨hin, hf⟩ := ob_if hf
  refine aM_ld (a := 1) (by decide) C0 hT hE hP (inb_in hin) dX8_isSign_5 ?_
  refine lv_bipush (v := 80) hx hb dX8_isSign_6 (by decide) ?_
  refine lv_icmp_ne (tgt := 52) hx hb dX8_isSign_8 (by decide) (fun h8 => ?_) (fun h8 => ?_)
  · rw [if_neg h8] at hf
    refine lv_iconst (v := 0) hx hb dX8_isSign_52 (by decide) ?_
    exact hret _ _ _ _ _ _ rfl hf hP hS dX8_isSign_53
  · rw [if_pos h8] at hf
    refine lv_aload_n hx hb dX8_isSign_11 rfl (lv_at hl 0 rfl) ?_
    refine g_Model_tape C0 hT hE hP mf_X8_13 dX8_isSign_12 ?_
    refine lv_iload_n hx hb dX8_isSign_15 rfl (lv_at hl 1 rfl) ?_
    refine lv_iconst (v := 1) hx hb dX8_isSign_16 (by decide) ?_
    refine lv_iadd hx hb dX8_isSign_17 ?_
    obtain ⟨hin, hf⟩ := ob_if hf
    refine aM_ld (a := 1) (by decide) C0 hT hE hP (inb_in hin) dX8_isSign_18 ?_
    refine lv_bipush (v := 75) hx hb dX8_isSign_19 (by decide) ?_
    refine lv_icmp_ne (tgt := 52) hx hb dX8_isSign_21 (by decide) (fun h21 => ?_) (fun h21 => ?_)
    · rw [if_neg h21] at hf
      refine lv_iconst (v := 0) hx hb dX8_isSign_52 (by decide) ?_
      exact hret _ _ _ _ _ _ rfl hf hP hS dX8_isSign_53
    · rw [if_pos h21] at hf
      refine lv_aload_n hx hb dX8_isSign_24 rfl (lv_at hl 0 rfl) ?_
      refine g_Model_tape C0 hT hE hP mf_X8_13 dX8_isSign_25 ?_
      refine lv_iload_n hx hb dX8_isSign_28 rfl (lv_at hl 1 rfl) ?_
      refine lv_iconst (v := 2) hx hb dX8_isSign_29 (by decide) ?_
      refine lv_iadd hx hb dX8_isSign_30 ?_
      obtain ⟨hin, hf⟩ := ob_if hf
      refine aM_ld (a := 1) (by decide) C0 hT hE hP (inb_in hin) dX8_isSign_31 ?_
      refine lv_iload_n hx hb dX8_isSign_32 rfl (lv_at hl 2 rfl) ?_
      refine lv_icmp_ne (tgt := 52) hx hb dX8_isSign_33 (by decide) (fun h33 => ?_) (fun h33 => ?_)
      · rw [if_neg h33] at hf
        refine lv_iconst (v := 0) hx hb dX8_isSign_52 (by decide) ?_
        exact hret _ _ _ _ _ _ rfl hf hP hS dX8_isSign_53
      · rw [if_pos h33] at hf
        refine lv_aload_n hx hb dX8_isSign_36 rfl (lv_at hl 0 rfl) ?_
        refine g_Model_tape C0 hT hE hP mf_X8_13 dX8_isSign_37 ?_
        refine lv_iload_n hx hb dX8_isSign_40 rfl (lv_at hl 1 rfl) ?_
        refine lv_iconst (v := 3) hx hb dX8_isSign_41 (by decide) ?_
        refine lv_iadd hx hb dX8_isSign_42 ?_
        obtain ⟨hin, hf⟩ := ob_if hf
        refine aM_ld (a := 1) (by decide) C0 hT hE hP (inb_in hin) dX8_isSign_43 ?_
        refine lv_iload_n hx hb dX8_isSign_44 rfl (lv_at hl 3 rfl) ?_
        refine lv_icmp_ne (tgt := 52) hx hb dX8_isSign_45 (by decide) (fun h45 => ?_) (fun h45 => ?_)
        · rw [if_neg h45] at hf
          refine lv_iconst (v := 0) hx hb dX8_isSign_52 (by decide) ?_
          exact hret _ _ _ _ _ _ rfl hf hP hS dX8_isSign_53
        · rw [if_pos h45] at hf
          refine lv_iconst (v := 1) hx hb dX8_isSign_48 (by decide) ?_
          refine lv_goto (tgt := 53) hx hb dX8_isSign_49 (by decide) ?_
          exact hret _ _ _ _ _ _ rfl hf hP hS dX8_isSign_53
def f_X8_fails (σ : SM) (x1 : Int32) (x2 : Int32) (x3 : Int32) : Option (Int32 × SM) := some (0, (SMi (SMi (SMi σ 4 x1) 5 x2) 6 x3))
def rm_X8_fails : Room := { frames := 0, cells := 0, slots := 0, locals := 0 }
set_option maxHeartbeats 4000000 in
set_option maxRecDepth 100000 in
theorem met_X8_fails (l : Launch) (dC : Nat → ClassId) (dI : Nat → Nat → Nat) (cyI cyE : ClassId) (tC : Nat) (ad : Nat → Nat) (σ : SM) (x1 : Int32) (x2 : Int32) (x3 : Int32) (res : Int32 × SM) (hf : f_X8_fails σ x1 x2 x3 = some res) : ax_Mi l dC dI cyI cyE tC 12 (cM cyI ad) ad yX8_fails cX8_fails 4 (some .boolean) rm_X8_fails [.ref (ad 11), .int x1, .int x2, .int x3] σ res.1 res.2 := by
  intro sz
  refine Met.ofW (cc := cX8_fails) (maxL := 4) (ret := (some .boolean)) (by decide) rfl ?_
  intro p e s m args below meth c s₁ B hml hv
  obtain ⟨hargs, hsz, hP, hJ, hE⟩ := hv
  subst hsz
  have hx := B.exec
  have hb := B.bytes
  have hr := B.returns
  have hlocks := B.notSynchronized
  have hts := atoms_spec (ws := wsY yX8_fails cX8_fails 4 (some .boolean)) B.pre
  have hown : s.vm.findClass RX8 = some m.cls := findClass_of_methodNamed B.named
  have C0 : CallFix p m c cX8_fails 4 s args (wsY yX8_fails cX8_fails 4 (some .boolean)) RX8 := ⟨hx, hb, hml, hown, hts⟩
  have hT : ∀ w ∈ bw, w ∈ wsY yX8_fails cX8_fails 4 (some .boolean) := fun w h => List.mem_cons_of_mem _ h
  have hS : va_S (ax_A 12 ad s.heap.size) s.heap s.heap [] := va_S.rf
  rw [show entryFrame m args 4 = entryFrame m ([.ref (ad 11), .int x1, .int x2, .int x3] : List Value).toArray 4 by rw [hargs]]
  have hl := lv_entry ([.ref (ad 11), .int x1, .int x2, .int x3]) (n := 4) (Nat.le_of_ble_eq_true rfl)
  rw [lg_entry_eq]
  generalize (lg_sl ([.ref (ad 11), .int x1, .int x2, .int x3]) ++ List.replicate (4 - (lg_sl ([.ref (ad 11), .int x1, .int x2, .int x3])).length) Slot.unset).toArray = ls at hl ⊢
  have hl : lv_has ls 4 [(0, .ref (ad 11)), (1, .int x1), (2, .int x2), (3, .int x3)] := hl
  obtain ⟨Q, hQ⟩ : ∃ Q : State → Prop, Q = MQ below (va_Qi (fun (a : Int32) (u : SM) => a = res.1 ∧ u = res.2) (ax_B dC dI 12 (cM cyI ad) ad) (ax_A 12 ad s.heap.size)) args s 0 0 (ax_A 12 ad s.heap.size) := ⟨_, rfl⟩
  show W p l e rm_X8_fails s m args below meth c s.heap [] 0 0 _ _
  rw [← hQ]
  have hret : ∀ (v : Int32) (σ : SM) (H : Heap) (locs : List Loc) (ls : Array Slot) (pc : Nat), narrow .boolean (.int v) = .int v → some (v, σ) = some res → va_P (dC, dI) vwCl (ax_w 12 ad (cM cyI ad σ)) H → va_S (ax_A 12 ad s.heap.size) s.heap H locs → decode cX8_fails pc = .ok (.ireturn, 1) → W p l e rm_X8_fails s m args below meth c H locs 0 0 Q (F0 m pc ls [.int v]) := by
    intro v σ H locs ls pc hn hf hP hS hd
    cases hf
    rw [hQ]
    exact ax_iret hx hb hr hlocks hn hP hS hd rfl rfl
  unfold f_X8_fails at hf
  refine lv_aload_n hx hb dX8_fails_0 rfl (lv_at hl 0 rfl) ?_
  refine lv_iload_n hx hb dX8_fails_1 rfl (lv_at hl 1 rfl) ?_
  refine p_Model_fault C0 hT hE hJ hP hS mf_X8_138 dX8_fails_2 (fun H locs hP hS => ?_)
  refine lv_aload_n hx hb dX8_fails_5 rfl (lv_at hl 0 rfl) ?_
  refine lv_iload_n hx hb dX8_fails_6 rfl (lv_at hl 2 rfl) ?_
  refine p_Model_faultFile C0 hT hE hJ hP hS mf_X8_31 dX8_fails_7 (fun H locs hP hS => ?_)
  refine lv_aload_n hx hb dX8_fails_10 rfl (lv_at hl 0 rfl) ?_
  refine lv_iload_n hx hb dX8_fails_11 rfl (lv_at hl 3 rfl) ?_
  refine p_Model_faultPlace C0 hT hE hJ hP hS mf_X8_35 dX8_fails_12 (fun H locs hP hS => ?_)
  refine lv_iconst (v := 0) hx hb dX8_fails_15 (by decide) ?_
  exact hret _ _ _ _ _ _ rfl hf hP hS dX8_fails_16
def f_X8_areFacts_30 (x1 : Int32) (σ : SM) (s0 : Int32) : Option (Int32 × SM) := (f_X8_is σ x1 2 0).bind fun q35 => if q35.1 = 0 then (some (0, q35.2)) else (if s0 = 0 then (some (0, q35.2)) else ((f_X8_is q35.2 (x1 + 4) 2 0).bind fun q51 => if q51.1 = 0 then (some (0, q51.2)) else ((f_X8_is q51.2 (x1 + 6) 2 33).bind fun q65 => if q65.1 = 0 then (some (0, q65.2)) else (some (1, q65.2)))))
def f_X8_areFacts (σ : SM) (x1 : Int32) : Option (Int32 × SM) := (f_X8_is σ (x1 + 2) 2 0).bind fun q6 => if q6.1 = 0 then ((f_X8_is q6.2 (x1 + 2) 2 99).bind fun q19 => if q19.1 = 0 then (f_X8_areFacts_30 x1 q19.2 0) else (f_X8_areFacts_30 x1 q19.2 1)) else (f_X8_areFacts_30 x1 q6.2 1)
def rm_X8_areFacts : Room := { frames := 2, cells := 0, slots := 0, locals := 48 }
set_option maxHeartbeats 4000000 in
set_option maxRecDepth 100000 in
theorem met_X8_areFacts (l : Launch) (dC : Nat → ClassId) (dI : Nat → Nat → Nat) (cyI cyE : ClassId) (tC : Nat) (ad : Nat → Nat) (σ : SM) (x1 : Int32) (res : Int32 × SM) (hf : f_X8_areFacts σ x1 = some res) : ax_Mi l dC dI cyI cyE tC 12 (cM cyI ad) ad yX8_areFacts cX8_areFacts 3 (some .boolean) rm_X8_areFacts [.ref (ad 11), .int x1] σ res.1 res.2 := by
  intro sz
  refine Met.ofW (cc := cX8_areFacts) (maxL := 3) (ret := (some .boolean)) (by decide) rfl ?_
  intro p e s m args below meth c s₁ B hml hv
  obtain ⟨hargs, hsz, hP, hJ, hE⟩ := hv
  subst hsz
  have hx := B.exec
  have hb := B.bytes
  have hr := B.returns
  have hlocks := B.notSynchronized
  have hts := atoms_spec (ws := wsY yX8_areFacts cX8_areFacts 3 (some .boolean)) B.pre
  have hown : s.vm.findClass RX8 = some m.cls := findClass_of_methodNamed B.named
  have C0 : CallFix p m c cX8_areFacts 3 s args (wsY yX8_areFacts cX8_areFacts 3 (some .boolean)) RX8 := ⟨hx, hb, hml, hown, hts⟩
  have hT : ∀ w ∈ bw, w ∈ wsY yX8_areFacts cX8_areFacts 3 (some .boolean) := fun w h => List.mem_cons_of_mem _ h
  have hS : va_S (ax_A 12 ad s.heap.size) s.heap s.heap [] := va_S.rf
  rw [show entryFrame m args 3 = entryFrame m ([.ref (ad 11), .int x1] : List Value).toArray 3 by rw [hargs]]
  have hl := lv_entry ([.ref (ad 11), .int x1]) (n := 3) (Nat.le_of_ble_eq_true rfl)
  rw [lg_entry_eq]
  generalize (lg_sl ([.ref (ad 11), .int x1]) ++ List.replicate (3 - (lg_sl ([.ref (ad 11), .int x1])).length) Slot.unset).toArray = ls at hl ⊢
  have hl : lv_has ls 3 [(0, .ref (ad 11)), (1, .int x1)] := hl
  obtain ⟨Q, hQ⟩ : ∃ Q : State → Prop, Q = MQ below (va_Qi (fun (a : Int32) (u : SM) => a = res.1 ∧ u = res.2) (ax_B dC dI 12 (cM cyI ad) ad) (ax_A 12 ad s.heap.size)) args s 0 0 (ax_A 12 ad s.heap.size) := ⟨_, rfl⟩
  show W p l e rm_X8_areFacts s m args below meth c s.heap [] 0 0 _ _
  rw [← hQ]
  have hret : ∀ (v : Int32) (σ : SM) (H : Heap) (locs : List Loc) (ls : Array Slot) (pc : Nat), narrow .boolean (.int v) = .int v → some (v, σ) = some res → va_P (dC, dI) vwCl (ax_w 12 ad (cM cyI ad σ)) H → va_S (ax_A 12 ad s.heap.size) s.heap H locs → decode cX8_areFacts pc = .ok (.ireturn, 1) → W p l e rm_X8_areFacts s m args below meth c H locs 0 0 Q (F0 m pc ls [.int v]) := by
    intro v σ H locs ls pc hn hf hP hS hd
    cases hf
    rw [hQ]
    exact ax_iret hx hb hr hlocks hn hP hS hd rfl rfl
  have L30 : ∀ (σ : SM) (s0 : Int32), ∀ (H : Heap) (locs : List Loc) (ls : Array Slot), va_P (dC, dI) vwCl (ax_w 12 ad (cM cyI ad σ)) H → va_S (ax_A 12 ad s.heap.size) s.heap H locs → lv_has ls 3 [(0, .ref (ad 11)), (1, .int x1)] → f_X8_areFacts_30 x1 σ s0 = some res → W p l e rm_X8_areFacts s m args below meth c H locs 0 0 Q (F0 m 30 ls [.int s0]) := by
    intro σ s0  H locs ls hP hS hl hf
    unfold f_X8_areFacts_30 at hf
    refine lv_istore_n (lv' := [(2, .int s0), (0, .ref (ad 11)), (1, .int x1)]) hx hb dX8_areFacts_30 rfl hl (by decide) rfl (fun ls hl => ?_)
    refine lv_aload_n hx hb dX8_areFacts_31 rfl (lv_at hl 1 rfl) ?_
    refine lv_iload_n hx hb dX8_areFacts_32 rfl (lv_at hl 2 rfl) ?_
    refine lv_iconst (v := 2) hx hb dX8_areFacts_33 (by decide) ?_
    refine lv_iconst (v := 0) hx hb dX8_areFacts_34 (by decide) ?_
    obtain ⟨q35, hq, hf⟩ := ob_bind hf
    refine ax_callVi (C := "") (b := 0) (i := 11) (k := 3) (ci := 6) [.int x1, .int 2, .int 0] C0 hT hJ hE (met_X8_is l dC dI cyI cyE tC ad σ x1 2 0 _ hq) hP hS mc_X8_is ml_X8_141 mi_X8_is ms_X8_is mz_X8 (by decide +kernel) ⟨rfl, rfl⟩ ⟨by decide, by decide⟩ (by decide) cM_O rfl rfl rfl hl.1 (Nat.le_of_ble_eq_true rfl) dX8_areFacts_35 ⟨Nat.zero_le _, Nat.zero_le _⟩ (fun H locs hP hS => ?_)
    refine lv_if_eq (tgt := 75) hx hb dX8_areFacts_38 (by decide) (fun h38 => ?_) (fun h38 => ?_)
    · rw [if_pos h38] at hf
      refine lv_iconst (v := 0) hx hb dX8_areFacts_75 (by decide) ?_
      exact hret _ _ _ _ _ _ rfl hf hP hS dX8_areFacts_76
    · rw [if_neg h38] at hf
      refine lv_iload_n hx hb dX8_areFacts_41 rfl (lv_at hl 0 rfl) ?_
      refine lv_if_eq (tgt := 75) hx hb dX8_areFacts_42 (by decide) (fun h42 => ?_) (fun h42 => ?_)
      · rw [if_pos h42] at hf
        refine lv_iconst (v := 0) hx hb dX8_areFacts_75 (by decide) ?_
        exact hret _ _ _ _ _ _ rfl hf hP hS dX8_areFacts_76
      · rw [if_neg h42] at hf
        refine lv_aload_n hx hb dX8_areFacts_45 rfl (lv_at hl 1 rfl) ?_
        refine lv_iload_n hx hb dX8_areFacts_46 rfl (lv_at hl 2 rfl) ?_
        refine lv_iconst (v := 4) hx hb dX8_areFacts_47 (by decide) ?_
        refine lv_iadd hx hb dX8_areFacts_48 ?_
        refine lv_iconst (v := 2) hx hb dX8_areFacts_49 (by decide) ?_
        refine lv_iconst (v := 0) hx hb dX8_areFacts_50 (by decide) ?_
        obtain ⟨q51, hq, hf⟩ := ob_bind hf
        refine ax_callVi (C := "") (b := 0) (i := 11) (k := 3) (ci := 6) [.int (x1 + 4), .int 2, .int 0] C0 hT hJ hE (met_X8_is l dC dI cyI cyE tC ad q35.2 (x1 + 4) 2 0 _ hq) hP hS mc_X8_is ml_X8_141 mi_X8_is ms_X8_is mz_X8 (by decide +kernel) ⟨rfl, rfl⟩ ⟨by decide, by decide⟩ (by decide) cM_O rfl rfl rfl hl.1 (Nat.le_of_ble_eq_true rfl) dX8_areFacts_51 ⟨Nat.zero_le _, Nat.zero_le _⟩ (fun H locs hP hS => ?_)
        refine lv_if_eq (tgt := 75) hx hb dX8_areFacts_54 (by decide) (fun h54 => ?_) (fun h54 => ?_)
        · rw [if_pos h54] at hf
          refine lv_iconst (v := 0) hx hb dX8_areFacts_75 (by decide) ?_
          exact hret _ _ _ _ _ _ rfl hf hP hS dX8_areFacts_76
        · rw [if_neg h54] at hf
          refine lv_aload_n hx hb dX8_areFacts_57 rfl (lv_at hl 1 rfl) ?_
          refine lv_iload_n hx hb dX8_areFacts_58 rfl (lv_at hl 2 rfl) ?_
          refine lv_bipush (v := 6) hx hb dX8_areFacts_59 (by decide) ?_
          refine lv_iadd hx hb dX8_areFacts_61 ?_
          refine lv_iconst (v := 2) hx hb dX8_areFacts_62 (by decide) ?_
          refine lv_bipush (v := 33) hx hb dX8_areFacts_63 (by decide) ?_
          obtain ⟨q65, hq, hf⟩ := ob_bind hf
          refine ax_callVi (C := "") (b := 0) (i := 11) (k := 3) (ci := 6) [.int (x1 + 6), .int 2, .int 33] C0 hT hJ hE (met_X8_is l dC dI cyI cyE tC ad q51.2 (x1 + 6) 2 33 _ hq) hP hS mc_X8_is ml_X8_141 mi_X8_is ms_X8_is mz_X8 (by decide +kernel) ⟨rfl, rfl⟩ ⟨by decide, by decide⟩ (by decide) cM_O rfl rfl rfl hl.1 (Nat.le_of_ble_eq_true rfl) dX8_areFacts_65 ⟨Nat.zero_le _, Nat.zero_le _⟩ (fun H locs hP hS => ?_)
          refine lv_if_eq (tgt := 75) hx hb dX8_areFacts_68 (by decide) (fun h68 => ?_) (fun h68 => ?_)
          · rw [if_pos h68] at hf
            refine lv_iconst (v := 0) hx hb dX8_areFacts_75 (by decide) ?_
            exact hret _ _ _ _ _ _ rfl hf hP hS dX8_areFacts_76
          · rw [if_neg h68] at hf
            refine lv_iconst (v := 1) hx hb dX8_areFacts_71 (by decide) ?_
            refine lv_goto (tgt := 76) hx hb dX8_areFacts_72 (by decide) ?_
            exact hret _ _ _ _ _ _ rfl hf hP hS dX8_areFacts_76
  unfold f_X8_areFacts at hf
  refine lv_aload_n hx hb dX8_areFacts_0 rfl (lv_at hl 0 rfl) ?_
  refine lv_iload_n hx hb dX8_areFacts_1 rfl (lv_at hl 1 rfl) ?_
  refine lv_iconst (v := 2) hx hb dX8_areFacts_2 (by decide) ?_
  refine lv_iadd hx hb dX8_areFacts_3 ?_
  refine lv_iconst (v := 2) hx hb dX8_areFacts_4 (by decide) ?_
  refine lv_iconst (v := 0) hx hb dX8_areFacts_5 (by decide) ?_
  obtain ⟨q6, hq, hf⟩ := ob_bind hf
  refine ax_callVi (C := "") (b := 0) (i := 11) (k := 3) (ci := 6) [.int (x1 + 2), .int 2, .int 0] C0 hT hJ hE (met_X8_is l dC dI cyI cyE tC ad σ (x1 + 2) 2 0 _ hq) hP hS mc_X8_is ml_X8_141 mi_X8_is ms_X8_is mz_X8 (by decide +kernel) ⟨rfl, rfl⟩ ⟨by decide, by decide⟩ (by decide) cM_O rfl rfl rfl hl.1 (Nat.le_of_ble_eq_true rfl) dX8_areFacts_6 ⟨Nat.zero_le _, Nat.zero_le _⟩ (fun H locs hP hS => ?_)
  refine lv_if_ne (tgt := 25) hx hb dX8_areFacts_9 (by decide) (fun h9 => ?_) (fun h9 => ?_)
  · rw [if_neg h9] at hf
    refine lv_iconst (v := 1) hx hb dX8_areFacts_25 (by decide) ?_
    refine lv_goto (tgt := 30) hx hb dX8_areFacts_26 (by decide) ?_
    exact L30 _ _ _ _ _ hP hS (lv_sub hl [0, 1] rfl) hf
  · rw [if_pos h9] at hf
    refine lv_aload_n hx hb dX8_areFacts_12 rfl (lv_at hl 0 rfl) ?_
    refine lv_iload_n hx hb dX8_areFacts_13 rfl (lv_at hl 1 rfl) ?_
    refine lv_iconst (v := 2) hx hb dX8_areFacts_14 (by decide) ?_
    refine lv_iadd hx hb dX8_areFacts_15 ?_
    refine lv_iconst (v := 2) hx hb dX8_areFacts_16 (by decide) ?_
    refine lv_bipush (v := 99) hx hb dX8_areFacts_17 (by decide) ?_
    obtain ⟨q19, hq, hf⟩ := ob_bind hf
    refine ax_callVi (C := "") (b := 0) (i := 11) (k := 3) (ci := 6) [.int (x1 + 2), .int 2, .int 99] C0 hT hJ hE (met_X8_is l dC dI cyI cyE tC ad q6.2 (x1 + 2) 2 99 _ hq) hP hS mc_X8_is ml_X8_141 mi_X8_is ms_X8_is mz_X8 (by decide +kernel) ⟨rfl, rfl⟩ ⟨by decide, by decide⟩ (by decide) cM_O rfl rfl rfl hl.1 (Nat.le_of_ble_eq_true rfl) dX8_areFacts_19 ⟨Nat.zero_le _, Nat.zero_le _⟩ (fun H locs hP hS => ?_)
    refine lv_if_eq (tgt := 29) hx hb dX8_areFacts_22 (by decide) (fun h22 => ?_) (fun h22 => ?_)
    · rw [if_pos h22] at hf
      refine lv_iconst (v := 0) hx hb dX8_areFacts_29 (by decide) ?_
      exact L30 _ _ _ _ _ hP hS (lv_sub hl [0, 1] rfl) hf
    · rw [if_neg h22] at hf
      refine lv_iconst (v := 1) hx hb dX8_areFacts_25 (by decide) ?_
      refine lv_goto (tgt := 30) hx hb dX8_areFacts_26 (by decide) ?_
      exact L30 _ _ _ _ _ hP hS (lv_sub hl [0, 1] rfl) hf
