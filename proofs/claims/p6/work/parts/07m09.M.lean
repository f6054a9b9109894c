def f_X8_saved_240 (x1 : Int32) (σ : SM) (x2 : Int32) (x3 : Int32) : Option (Int32 × SM) := (f_X8_append σ (x1 + 30) x2 ((x1 + 30) + x2) (x1 + 8)).bind fun q256 => some ((30 + x2) + x3, q256)
def f_X8_saved_210 (x1 : Int32) (σ : SM) (x2 : Int32) (x3 : Int32) (x4 : Int32) (x5 : Int32) : Option (Int32 × SM) := if inb 20 (capM 6) = true then (if (x5 + (σ.2 6 (20 : Int32).toNatClampNeg)) ≤ 6000 then (if x4 = (-1) then (f_X8_saved_240 x1 σ x2 x3) else ((f_X8_goes σ x4).bind fun q237 => f_X8_saved_240 x1 q237 x2 x3)) else (some (0, σ))) else none
def f_X8_saved_192 (x1 : Int32) (σ : SM) (x2 : Int32) (x3 : Int32) (x4 : Int32) (s0 : Int32) (s1 : Int32) : Option (Int32 × SM) := if x4 = (-1) then (if (σ.1 3) = 20 then (some (0, σ)) else (f_X8_saved_210 x1 σ x2 x3 x4 (s0 - s1))) else (f_X8_saved_210 x1 σ x2 x3 x4 (s0 - s1))
def f_X8_saved (σ : SM) (x1 : Int32) : Option (Int32 × SM) := if (σ.1 1) < (x1 + 30) then (some (0, σ)) else ((f_X8_isSign σ x1 3 4).bind fun q15 => if q15.1 = 0 then (some (0, q15.2)) else ((f_X8_is q15.2 (x1 + 4) 2 20).bind fun q28 => if q28.1 = 0 then (some (0, q28.2)) else ((f_X8_areFacts q28.2 (x1 + 6)).bind fun q39 => if q39.1 = 0 then (some (0, q39.2)) else ((f_X8_is q39.2 (x1 + 28) 2 0).bind fun q52 => if q52.1 = 0 then (some (0, q52.2)) else ((f_X8_number q52.2 (x1 + 26) 2).bind fun q66 => (f_X8_number q66.2 (x1 + 18) 4).bind fun q76 => if (0 : Int32) < (lg_cmp (((x1.toInt64 + 30) + q66.1.toInt64) + q76.1.toInt64) ((q76.2.1 1).toInt64)) then (some (0, q76.2)) else ((f_X8_isName q76.2 (x1 + 30) q66.1).bind fun q107 => if q107.1 = 0 then (some (0, q107.2)) else ((f_X8_areSizes q107.2 (x1 + 8)).bind fun q118 => if q118.1 = 0 then (some (0, q118.2)) else ((f_X8_unfold q118.2 ((x1 + 30) + q66.1) (x1 + 8)).bind fun q137 => if q137.1 = 0 then (some (0, q137.2)) else ((f_X8_isCrc q137.2 (x1 + 8)).bind fun q148 => if q148.1 = 0 then (some (0, q148.2)) else ((f_X8_named q148.2 (x1 + 30) q66.1 (q148.2.1 3)).bind fun q166 => (f_X8_total q166.2 ).bind fun q172 => if q166.1 = (-1) then (f_X8_saved_192 x1 q172.2 q66.1 q76.1 q166.1 q172.1 0) else (if inb q166.1 (capM 6) = true then (f_X8_saved_192 x1 q172.2 q66.1 q76.1 q166.1 q172.1 (q172.2.2 6 q166.1.toNatClampNeg)) else none)))))))))))
def rm_X8_saved : Room := { frames := 4, cells := 0, slots := 0, locals := 104 }
set_option maxHeartbeats 4000000 in
set_option maxRecDepth 100000 in
theorem met_X8_saved (l : Launch) (dC : Nat → ClassId) (dI : Nat → Nat → Nat) (cyI cyE : ClassId) (tC : Nat) (ad : Nat → Nat) (σ : SM) (x1 : Int32) (res : Int32 × SM) (hf : f_X8_saved σ x1 = some res) : ax_Mi l dC dI cyI cyE tC 12 (cM cyI ad) ad yX8_saved cX8_saved 6 (some .int) rm_X8_saved [.ref (ad 11), .int x1] σ res.1 res.2 := by
  intro sz
  refine Met.ofW (cc := cX8_saved) (maxL := 6) (ret := (some .int)) (by decide) rfl ?_
  intro p e s m args below meth c s₁ B hml hv
  obtain ⟨hargs, hsz, hP, hJ, hE⟩ := hv
  subst hsz
  have hx := B.exec
  have hb := B.bytes
  have hr := B.returns
  have hlocks := B.notSynchronized
  have hts := atoms_spec (ws := wsY yX8_saved cX8_saved 6 (some .int)) B.pre
  have hown : s.vm.findClass RX8 = some m.cls := findClass_of_methodNamed B.named
  have C0 : CallFix p m c cX8_saved 6 s args (wsY yX8_saved cX8_saved 6 (some .int)) RX8 := ⟨hx, hb, hml, hown, hts⟩
  have hT : ∀ w ∈ bw, w ∈ wsY yX8_saved cX8_saved 6 (some .int) := fun w h => List.mem_cons_of_mem _ h
  have hS : va_S (ax_A 12 ad s.heap.size) s.heap s.heap [] := va_S.rf
  rw [show entryFrame m args 6 = entryFrame m ([.ref (ad 11), .int x1] : List Value).toArray 6 by rw [hargs]]
  have hl := lv_entry ([.ref (ad 11), .int x1]) (n := 6) (Nat.le_of_ble_eq_true rfl)
  rw [lg_entry_eq]
  generalize (lg_sl ([.ref (ad 11), .int x1]) ++ List.replicate (6 - (lg_sl ([.ref (ad 11), .int x1])).length) Slot.unset).toArray = ls at hl ⊢
  have hl : lv_has ls 6 [(0, .ref (ad 11)), (1, .int x1)] := hl
  obtain ⟨Q, hQ⟩ : ∃ Q : State → Prop, Q = MQ below (va_Qi (fun (a : Int32) (u : SM) => a = res.1 ∧ u = res.2) (ax_B dC dI 12 (cM cyI ad) ad) (ax_A 12 ad s.heap.size)) args s 0 0 (ax_A 12 ad s.heap.size) := ⟨_, rfl⟩
  show W p l e rm_X8_saved s m args below meth c s.heap [] 0 0 _ _
  rw [← hQ]
  have hret : ∀ (v : Int32) (σ : SM) (H : Heap) (locs : List Loc) (ls : Array Slot) (pc : Nat), narrow .int (.int v) = .int v → some (v, σ) = some res → va_P (dC, dI) vwCl (ax_w 12 ad (cM cyI ad σ)) H → va_S (ax_A 12 ad s.heap.size) s.heap H locs → decode cX8_saved pc = .ok (.ireturn, 1) → W p l e rm_X8_saved s m args below meth c H locs 0 0 Q (F0 m pc ls [.int v]) := by
    intro v σ H locs ls pc hn hf hP hS hd
    cases hf
    rw [hQ]
    exact ax_iret hx hb hr hlocks hn hP hS hd rfl rfl
  have L240 : ∀ (σ : SM) (x2 : Int32) (x3 : Int32), ∀ (H : Heap) (locs : List Loc) (ls : Array Slot), va_P (dC, dI) vwCl (ax_w 12 ad (cM cyI ad σ)) H → va_S (ax_A 12 ad s.heap.size) s.heap H locs → lv_has ls 6 [(0, .ref (ad 11)), (1, .int x1), (2, .int x2), (3, .int x3)] → f_X8_saved_240 x1 σ x2 x3 = some res → W p l e rm_X8_saved s m args below meth c H locs 0 0 Q (F0 m 240 ls []) := by
    intro σ x2 x3  H locs ls hP hS hl hf
    unfold f_X8_saved_240 at hf
    refine lv_aload_n hx hb dX8_saved_240 rfl (lv_at hl 0 rfl) ?_
    refine lv_iload_n hx hb dX8_saved_241 rfl (lv_at hl 1 rfl) ?_
    refine lv_bipush (v := 30) hx hb dX8_saved_242 (by decide) ?_
    refine lv_iadd hx hb dX8_saved_244 ?_
    refine lv_iload_n hx hb dX8_saved_245 rfl (lv_at hl 2 rfl) ?_
    refine lv_iload_n hx hb dX8_saved_246 rfl (lv_at hl 1 rfl) ?_
    refine lv_bipush (v := 30) hx hb dX8_saved_247 (by decide) ?_
    refine lv_iadd hx hb dX8_saved_249 ?_
    refine lv_iload_n hx hb dX8_saved_250 rfl (lv_at hl 2 rfl) ?_
    refine lv_iadd hx hb dX8_saved_251 ?_
    refine lv_iload_n hx hb dX8_saved_252 rfl (lv_at hl 1 rfl) ?_
    refine lv_bipush (v := 8) hx hb dX8_saved_253 (by decide) ?_
    refine lv_iadd hx hb dX8_saved_255 ?_
    obtain ⟨q256, hq, hf⟩ := ob_bind hf
    refine ax_callVv (b := 0) (i := 11) (k := 4) (ci := 6) [.int (x1 + 30), .int x2, .int ((x1 + 30) + x2), .int (x1 + 8)] C0 hT hJ hE (met_X8_append l dC dI cyI cyE tC ad σ (x1 + 30) x2 ((x1 + 30) + x2) (x1 + 8) _ hq) hP hS mc_X8_append ml_X8_189 mi_X8_append ms_X8_append mz_X8 (by decide +kernel) ⟨rfl, rfl⟩ ⟨by decide, by decide⟩ (by decide) cM_O rfl rfl rfl hl.1 (Nat.le_of_ble_eq_true rfl) dX8_saved_256 ⟨Nat.zero_le _, Nat.zero_le _⟩ (fun H locs hP hS => ?_)
    refine lv_bipush (v := 30) hx hb dX8_saved_259 (by decide) ?_
    refine lv_iload_n hx hb dX8_saved_261 rfl (lv_at hl 2 rfl) ?_
    refine lv_iadd hx hb dX8_saved_262 ?_
    refine lv_iload_n hx hb dX8_saved_263 rfl (lv_at hl 3 rfl) ?_
    refine lv_iadd hx hb dX8_saved_264 ?_
    exact hret _ _ _ _ _ _ rfl hf hP hS dX8_saved_265
  have L210 : ∀ (σ : SM) (x2 : Int32) (x3 : Int32) (x4 : Int32) (x5 : Int32), ∀ (H : Heap) (locs : List Loc) (ls : Array Slot), va_P (dC, dI) vwCl (ax_w 12 ad (cM cyI ad σ)) H → va_S (ax_A 12 ad s.heap.size) s.heap H locs → lv_has ls 6 [(0, .ref (ad 11)), (1, .int x1), (2, .int x2), (3, .int x3), (4, .int x4), (5, .int x5)] → f_X8_saved_210 x1 σ x2 x3 x4 x5 = some res → W p l e rm_X8_saved s m args below meth c H locs 0 0 Q (F0 m 210 ls []) := by
    intro σ x2 x3 x4 x5  H locs ls hP hS hl hf
    unfold f_X8_saved_210 at hf
    refine lv_iload hx hb dX8_saved_210 (lv_at hl 5 rfl) ?_
    refine lv_aload_n hx hb dX8_saved_212 rfl (lv_at hl 0 rfl) ?_
    refine g_Model_many C0 hT hE hP mf_X8_28 dX8_saved_213 ?_
    refine lv_bipush (v := 20) hx hb dX8_saved_216 (by decide) ?_
    obtain ⟨hin, hf⟩ := ob_if hf
    refine aM_ld (a := 6) (by decide) C0 hT hE hP (inb_in hin) dX8_saved_218 ?_
    refine lv_iadd hx hb dX8_saved_219 ?_
    refine lv_sipush (v := 6000) hx hb dX8_saved_220 (by decide) ?_
    refine lv_icmp_le (tgt := 228) hx hb dX8_saved_223 (by decide) (fun h223 => ?_) (fun h223 => ?_)
    · rw [if_pos h223] at hf
      refine lv_iload hx hb dX8_saved_228 (lv_at hl 4 rfl) ?_
      refine lv_iconst (v := (-1)) hx hb dX8_saved_230 (by decide) ?_
      refine lv_icmp_eq (tgt := 240) hx hb dX8_saved_231 (by decide) (fun h231 => ?_) (fun h231 => ?_)
      · rw [if_pos h231] at hf
        exact L240 _ _ _ _ _ _ hP hS (lv_sub hl [0, 1, 2, 3] rfl) hf
      · rw [if_neg h231] at hf
        refine lv_aload_n hx hb dX8_saved_234 rfl (lv_at hl 0 rfl) ?_
        refine lv_iload hx hb dX8_saved_235 (lv_at hl 4 rfl) ?_
        obtain ⟨q237, hq, hf⟩ := ob_bind hf
        refine ax_callVv (b := 0) (i := 11) (k := 1) (ci := 6) [.int x4] C0 hT hJ hE (met_X8_goes l dC dI cyI cyE tC ad σ x4 _ hq) hP hS mc_X8_goes ml_X8_89 mi_X8_goes ms_X8_goes mz_X8 (by decide +kernel) ⟨rfl, rfl⟩ ⟨by decide, by decide⟩ (by decide) cM_O rfl rfl rfl hl.1 (Nat.le_of_ble_eq_true rfl) dX8_saved_237 ⟨Nat.zero_le _, Nat.zero_le _⟩ (fun H locs hP hS => ?_)
        exact L240 _ _ _ _ _ _ hP hS (lv_sub hl [0, 1, 2, 3] rfl) hf
    · rw [if_neg h223] at hf
      refine lv_iconst (v := 0) hx hb dX8_saved_226 (by decide) ?_
      exact hret _ _ _ _ _ _ rfl hf hP hS dX8_saved_227
  have L192 : ∀ (σ : SM) (x2 : Int32) (x3 : Int32) (x4 : Int32) (s0 : Int32) (s1 : Int32), ∀ (H : Heap) (locs : List Loc) (ls : Array Slot), va_P (dC, dI) vwCl (ax_w 12 ad (cM cyI ad σ)) H → va_S (ax_A 12 ad s.heap.size) s.heap H locs → lv_has ls 6 [(0, .ref (ad 11)), (1, .int x1), (2, .int x2), (3, .int x3), (4, .int x4)] → f_X8_saved_192 x1 σ x2 x3 x4 s0 s1 = some res → W p l e rm_X8_saved s m args below meth c H locs 0 0 Q (F0 m 192 ls [.int s1, .int s0]) := by
    intro σ x2 x3 x4 s0 s1  H locs ls hP hS hl hf
    unfold f_X8_saved_192 at hf
    refine lv_isub hx hb dX8_saved_192 ?_
    refine lv_istore (lv' := [(5, .int (s0 - s1)), (0, .ref (ad 11)), (1, .int x1), (2, .int x2), (3, .int x3), (4, .int x4)]) hx hb dX8_saved_193 hl (by decide) rfl (fun ls hl => ?_)
    refine lv_iload hx hb dX8_saved_195 (lv_at hl 5 rfl) ?_
    refine lv_iconst (v := (-1)) hx hb dX8_saved_197 (by decide) ?_
    refine lv_icmp_ne (tgt := 210) hx hb dX8_saved_198 (by decide) (fun h198 => ?_) (fun h198 => ?_)
    · rw [if_neg h198] at hf
      exact L210 _ _ _ _ _ _ _ _ hP hS (lv_sub hl [1, 2, 3, 4, 5, 0] rfl) hf
    · rw [if_pos h198] at hf
      refine lv_aload_n hx hb dX8_saved_201 rfl (lv_at hl 1 rfl) ?_
      refine g_Model_files C0 hT hE hP mf_X8_59 dX8_saved_202 ?_
      refine lv_bipush (v := 20) hx hb dX8_saved_205 (by decide) ?_
      refine lv_icmp_eq (tgt := 226) hx hb dX8_saved_207 (by decide) (fun h207 => ?_) (fun h207 => ?_)
      · rw [if_pos h207] at hf
        refine lv_iconst (v := 0) hx hb dX8_saved_226 (by decide) ?_
        exact hret _ _ _ _ _ _ rfl hf hP hS dX8_saved_227
      · rw [if_neg h207] at hf
        exact L210 _ _ _ _ _ _ _ _ hP hS (lv_sub hl [1, 2, 3, 4, 5, 0] rfl) hf
  unfold f_X8_saved at hf
  refine lv_iload_n hx hb dX8_saved_0 rfl (lv_at hl 1 rfl) ?_
  refine lv_bipush (v := 30) hx hb dX8_saved_1 (by decide) ?_
  refine lv_iadd hx hb dX8_saved_3 ?_
  refine lv_aload_n hx hb dX8_saved_4 rfl (lv_at hl 0 rfl) ?_
  refine g_Model_size C0 hT hE hP mf_X8_53 dX8_saved_5 ?_
  refine lv_icmp_gt (tgt := 58) hx hb dX8_saved_8 (by decide) (fun h8 => ?_) (fun h8 => ?_)
  · rw [if_pos h8] at hf
    refine lv_iconst (v := 0) hx hb dX8_saved_58 (by decide) ?_
    exact hret _ _ _ _ _ _ rfl hf hP hS dX8_saved_59
  · rw [if_neg h8] at hf
    refine lv_aload_n hx hb dX8_saved_11 rfl (lv_at hl 0 rfl) ?_
    refine lv_iload_n hx hb dX8_saved_12 rfl (lv_at hl 1 rfl) ?_
    refine lv_iconst (v := 3) hx hb dX8_saved_13 (by decide) ?_
    refine lv_iconst (v := 4) hx hb dX8_saved_14 (by decide) ?_
    obtain ⟨q15, hq, hf⟩ := ob_bind hf
    refine ax_callVi (C := "") (b := 0) (i := 11) (k := 3) (ci := 6) [.int x1, .int 3, .int 4] C0 hT hJ hE (met_X8_isSign l dC dI cyI cyE tC ad σ x1 3 4 _ hq) hP hS mc_X8_isSign ml_X8_145 mi_X8_isSign ms_X8_isSign mz_X8 (by decide +kernel) ⟨rfl, rfl⟩ ⟨by decide, by decide⟩ (by decide) cM_O rfl rfl rfl hl.1 (Nat.le_of_ble_eq_true rfl) dX8_saved_15 ⟨Nat.zero_le _, Nat.zero_le _⟩ (fun H locs hP hS => ?_)
    refine lv_if_eq (tgt := 58) hx hb dX8_saved_18 (by decide) (fun h18 => ?_) (fun h18 => ?_)
    · rw [if_pos h18] at hf
      refine lv_iconst (v := 0) hx hb dX8_saved_58 (by decide) ?_
      exact hret _ _ _ _ _ _ rfl hf hP hS dX8_saved_59
    · rw [if_neg h18] at hf
      refine lv_aload_n hx hb dX8_saved_21 rfl (lv_at hl 0 rfl) ?_
      refine lv_iload_n hx hb dX8_saved_22 rfl (lv_at hl 1 rfl) ?_
      refine lv_iconst (v := 4) hx hb dX8_saved_23 (by decide) ?_
      refine lv_iadd hx hb dX8_saved_24 ?_
      refine lv_iconst (v := 2) hx hb dX8_saved_25 (by decide) ?_
      refine lv_bipush (v := 20) hx hb dX8_saved_26 (by decide) ?_
      obtain ⟨q28, hq, hf⟩ := ob_bind hf
      refine ax_callVi (C := "") (b := 0) (i := 11) (k := 3) (ci := 6) [.int (x1 + 4), .int 2, .int 20] C0 hT hJ hE (met_X8_is l dC dI cyI cyE tC ad q15.2 (x1 + 4) 2 20 _ hq) hP hS mc_X8_is ml_X8_141 mi_X8_is ms_X8_is mz_X8 (by decide +kernel) ⟨rfl, rfl⟩ ⟨by decide, by decide⟩ (by decide) cM_O rfl rfl rfl hl.1 (Nat.le_of_ble_eq_true rfl) dX8_saved_28 ⟨Nat.zero_le _, Nat.zero_le _⟩ (fun H locs hP hS => ?_)
      refine lv_if_eq (tgt := 58) hx hb dX8_saved_31 (by decide) (fun h31 => ?_) (fun h31 => ?_)
      · rw [if_pos h31] at hf
        refine lv_iconst (v := 0) hx hb dX8_saved_58 (by decide) ?_
        exact hret _ _ _ _ _ _ rfl hf hP hS dX8_saved_59
      · rw [if_neg h31] at hf
        refine lv_aload_n hx hb dX8_saved_34 rfl (lv_at hl 0 rfl) ?_
        refine lv_iload_n hx hb dX8_saved_35 rfl (lv_at hl 1 rfl) ?_
        refine lv_bipush (v := 6) hx hb dX8_saved_36 (by decide) ?_
        refine lv_iadd hx hb dX8_saved_38 ?_
        obtain ⟨q39, hq, hf⟩ := ob_bind hf
        refine ax_callVi (C := "") (b := 0) (i := 11) (k := 1) (ci := 6) [.int (x1 + 6)] C0 hT hJ hE (met_X8_areFacts l dC dI cyI cyE tC ad q28.2 (x1 + 6) _ hq) hP hS mc_X8_areFacts ml_X8_148 mi_X8_areFacts ms_X8_areFacts mz_X8 (by decide +kernel) ⟨rfl, rfl⟩ ⟨by decide, by decide⟩ (by decide) cM_O rfl rfl rfl hl.1 (Nat.le_of_ble_eq_true rfl) dX8_saved_39 ⟨Nat.zero_le _, Nat.zero_le _⟩ (fun H locs hP hS => ?_)
        refine lv_if_eq (tgt := 58) hx hb dX8_saved_42 (by decide) (fun h42 => ?_) (fun h42 => ?_)
        · rw [if_pos h42] at hf
          refine lv_iconst (v := 0) hx hb dX8_saved_58 (by decide) ?_
          exact hret _ _ _ _ _ _ rfl hf hP hS dX8_saved_59
        · rw [if_neg h42] at hf
          refine lv_aload_n hx hb dX8_saved_45 rfl (lv_at hl 0 rfl) ?_
          refine lv_iload_n hx hb dX8_saved_46 rfl (lv_at hl 1 rfl) ?_
          refine lv_bipush (v := 28) hx hb dX8_saved_47 (by decide) ?_
          refine lv_iadd hx hb dX8_saved_49 ?_
          refine lv_iconst (v := 2) hx hb dX8_saved_50 (by decide) ?_
          refine lv_iconst (v := 0) hx hb dX8_saved_51 (by decide) ?_
          obtain ⟨q52, hq, hf⟩ := ob_bind hf
          refine ax_callVi (C := "") (b := 0) (i := 11) (k := 3) (ci := 6) [.int (x1 + 28), .int 2, .int 0] C0 hT hJ hE (met_X8_is l dC dI cyI cyE tC ad q39.2 (x1 + 28) 2 0 _ hq) hP hS mc_X8_is ml_X8_141 mi_X8_is ms_X8_is mz_X8 (by decide +kernel) ⟨rfl, rfl⟩ ⟨by decide, by decide⟩ (by decide) cM_O rfl rfl rfl hl.1 (Nat.le_of_ble_eq_true rfl) dX8_saved_52 ⟨Nat.zero_le _, Nat.zero_le _⟩ (fun H locs hP hS => ?_)
          refine lv_if_ne (tgt := 60) hx hb dX8_saved_55 (by decide) (fun h55 => ?_) (fun h55 => ?_)
          · rw [if_neg h55] at hf
            refine lv_aload_n hx hb dX8_saved_60 rfl (lv_at hl 0 rfl) ?_
            refine lv_iload_n hx hb dX8_saved_61 rfl (lv_at hl 1 rfl) ?_
            refine lv_bipush (v := 26) hx hb dX8_saved_62 (by decide) ?_
            refine lv_iadd hx hb dX8_saved_64 ?_
            refine lv_iconst (v := 2) hx hb dX8_saved_65 (by decide) ?_
            obtain ⟨q66, hq, hf⟩ := ob_bind hf
            refine ax_callVi (C := "") (b := 0) (i := 11) (k := 2) (ci := 6) [.int (x1 + 26), .int 2] C0 hT hJ hE (met_X8_number l dC dI cyI cyE tC ad q52.2 (x1 + 26) 2 _ hq) hP hS mc_X8_number ml_X8_135 mi_X8_number ms_X8_number mz_X8 (by decide +kernel) ⟨rfl, rfl⟩ ⟨by decide, by decide⟩ (by decide) cM_O rfl rfl rfl hl.1 (Nat.le_of_ble_eq_true rfl) dX8_saved_66 ⟨Nat.zero_le _, Nat.zero_le _⟩ (fun H locs hP hS => ?_)
            refine lv_istore_n (lv' := [(2, .int q66.1), (0, .ref (ad 11)), (1, .int x1)]) hx hb dX8_saved_69 rfl hl (by decide) rfl (fun ls hl => ?_)
            refine lv_aload_n hx hb dX8_saved_70 rfl (lv_at hl 1 rfl) ?_
            refine lv_iload_n hx hb dX8_saved_71 rfl (lv_at hl 2 rfl) ?_
            refine lv_bipush (v := 18) hx hb dX8_saved_72 (by decide) ?_
            refine lv_iadd hx hb dX8_saved_74 ?_
            refine lv_iconst (v := 4) hx hb dX8_saved_75 (by decide) ?_
            obtain ⟨q76, hq, hf⟩ := ob_bind hf
            refine ax_callVi (C := "") (b := 0) (i := 11) (k := 2) (ci := 6) [.int (x1 + 18), .int 4] C0 hT hJ hE (met_X8_number l dC dI cyI cyE tC ad q66.2 (x1 + 18) 4 _ hq) hP hS mc_X8_number ml_X8_135 mi_X8_number ms_X8_number mz_X8 (by decide +kernel) ⟨rfl, rfl⟩ ⟨by decide, by decide⟩ (by decide) cM_O rfl rfl rfl hl.1 (Nat.le_of_ble_eq_true rfl) dX8_saved_76 ⟨Nat.zero_le _, Nat.zero_le _⟩ (fun H locs hP hS => ?_)
            refine lv_istore_n (lv' := [(3, .int q76.1), (2, .int q66.1), (0, .ref (ad 11)), (1, .int x1)]) hx hb dX8_saved_79 rfl hl (by decide) rfl (fun ls hl => ?_)
            refine lv_iload_n hx hb dX8_saved_80 rfl (lv_at hl 3 rfl) ?_
            refine lv_i2l hx hb dX8_saved_81 rfl ?_
            refine lv_ldc2 (own := RX8) (v := 30) hx hb hown (C0.2.2.2.2 _ (hT _ mk_X8_160)) dX8_saved_82 ?_
            refine lv_ladd hx hb dX8_saved_85 ?_
            refine lv_iload_n hx hb dX8_saved_86 rfl (lv_at hl 1 rfl) ?_
            refine lv_i2l hx hb dX8_saved_87 rfl ?_
            refine lv_ladd hx hb dX8_saved_88 ?_
            refine lv_iload_n hx hb dX8_saved_89 rfl (lv_at hl 0 rfl) ?_
            refine lv_i2l hx hb dX8_saved_90 rfl ?_
            refine lv_ladd hx hb dX8_saved_91 ?_
            refine lv_aload_n hx hb dX8_saved_92 rfl (lv_at hl 2 rfl) ?_
            refine g_Model_size C0 hT hE hP mf_X8_53 dX8_saved_93 ?_
            refine lv_i2l hx hb dX8_saved_96 rfl ?_
            refine W.lcmp hx hb dX8_saved_97 ?_
            refine lv_if_gt (tgt := 124) hx hb dX8_saved_98 (by decide) (fun h98 => ?_) (fun h98 => ?_)
            · rw [if_pos h98] at hf
              refine lv_iconst (v := 0) hx hb dX8_saved_124 (by decide) ?_
              exact hret _ _ _ _ _ _ rfl hf hP hS dX8_saved_125
            · rw [if_neg h98] at hf
              refine lv_aload_n hx hb dX8_saved_101 rfl (lv_at hl 2 rfl) ?_
              refine lv_iload_n hx hb dX8_saved_102 rfl (lv_at hl 3 rfl) ?_
              refine lv_bipush (v := 30) hx hb dX8_saved_103 (by decide) ?_
              refine lv_iadd hx hb dX8_saved_105 ?_
              refine lv_iload_n hx hb dX8_saved_106 rfl (lv_at hl 1 rfl) ?_
              obtain ⟨q107, hq, hf⟩ := ob_bind hf
              refine ax_callVi (C := "") (b := 0) (i := 11) (k := 2) (ci := 6) [.int (x1 + 30), .int q66.1] C0 hT hJ hE (met_X8_isName l dC dI cyI cyE tC ad q76.2 (x1 + 30) q66.1 _ hq) hP hS mc_X8_isName ml_X8_66 mi_X8_isName ms_X8_isName mz_X8 (by decide +kernel) ⟨rfl, rfl⟩ ⟨by decide, by decide⟩ (by decide) cM_O rfl rfl rfl hl.1 (Nat.le_of_ble_eq_true rfl) dX8_saved_107 ⟨Nat.zero_le _, Nat.zero_le _⟩ (fun H locs hP hS => ?_)
              refine lv_if_eq (tgt := 124) hx hb dX8_saved_110 (by decide) (fun h110 => ?_) (fun h110 => ?_)
              · rw [if_pos h110] at hf
                refine lv_iconst (v := 0) hx hb dX8_saved_124 (by decide) ?_
                exact hret _ _ _ _ _ _ rfl hf hP hS dX8_saved_125
              · rw [if_neg h110] at hf
                refine lv_aload_n hx hb dX8_saved_113 rfl (lv_at hl 2 rfl) ?_
                refine lv_iload_n hx hb dX8_saved_114 rfl (lv_at hl 3 rfl) ?_
                refine lv_bipush (v := 8) hx hb dX8_saved_115 (by decide) ?_
                refine lv_iadd hx hb dX8_saved_117 ?_
                obtain ⟨q118, hq, hf⟩ := ob_bind hf
                refine ax_callVi (C := "") (b := 0) (i := 11) (k := 1) (ci := 6) [.int (x1 + 8)] C0 hT hJ hE (met_X8_areSizes l dC dI cyI cyE tC ad q107.2 (x1 + 8) _ hq) hP hS mc_X8_areSizes ml_X8_166 mi_X8_areSizes ms_X8_areSizes mz_X8 (by decide +kernel) ⟨rfl, rfl⟩ ⟨by decide, by decide⟩ (by decide) cM_O rfl rfl rfl hl.1 (Nat.le_of_ble_eq_true rfl) dX8_saved_118 ⟨Nat.zero_le _, Nat.zero_le _⟩ (fun H locs hP hS => ?_)
                refine lv_if_ne (tgt := 126) hx hb dX8_saved_121 (by decide) (fun h121 => ?_) (fun h121 => ?_)
                · rw [if_neg h121] at hf
                  refine lv_aload_n hx hb dX8_saved_126 rfl (lv_at hl 2 rfl) ?_
                  refine lv_iload_n hx hb dX8_saved_127 rfl (lv_at hl 3 rfl) ?_
                  refine lv_bipush (v := 30) hx hb dX8_saved_128 (by decide) ?_
                  refine lv_iadd hx hb dX8_saved_130 ?_
                  refine lv_iload_n hx hb dX8_saved_131 rfl (lv_at hl 1 rfl) ?_
                  refine lv_iadd hx hb dX8_saved_132 ?_
                  refine lv_iload_n hx hb dX8_saved_133 rfl (lv_at hl 3 rfl) ?_
                  refine lv_bipush (v := 8) hx hb dX8_saved_134 (by decide) ?_
                  refine lv_iadd hx hb dX8_saved_136 ?_
                  obtain ⟨q137, hq, hf⟩ := ob_bind hf
                  refine ax_callVi (C := "") (b := 0) (i := 11) (k := 2) (ci := 6) [.int ((x1 + 30) + q66.1), .int (x1 + 8)] C0 hT hJ hE (met_X8_unfold l dC dI cyI cyE tC ad q118.2 ((x1 + 30) + q66.1) (x1 + 8) _ hq) hP hS mc_X8_unfold ml_X8_171 mi_X8_unfold ms_X8_unfold mz_X8 (by decide +kernel) ⟨rfl, rfl⟩ ⟨by decide, by decide⟩ (by decide) cM_O rfl rfl rfl hl.1 (Nat.le_of_ble_eq_true rfl) dX8_saved_137 ⟨Nat.zero_le _, Nat.zero_le _⟩ (fun H locs hP hS => ?_)
                  refine lv_if_eq (tgt := 154) hx hb dX8_saved_140 (by decide) (fun h140 => ?_) (fun h140 => ?_)
                  · rw [if_pos h140] at hf
                    refine lv_iconst (v := 0) hx hb dX8_saved_154 (by decide) ?_
                    exact hret _ _ _ _ _ _ rfl hf hP hS dX8_saved_155
                  · rw [if_neg h140] at hf
                    refine lv_aload_n hx hb dX8_saved_143 rfl (lv_at hl 2 rfl) ?_
                    refine lv_iload_n hx hb dX8_saved_144 rfl (lv_at hl 3 rfl) ?_
                    refine lv_bipush (v := 8) hx hb dX8_saved_145 (by decide) ?_
                    refine lv_iadd hx hb dX8_saved_147 ?_
                    obtain ⟨q148, hq, hf⟩ := ob_bind hf
                    refine ax_callVi (C := "") (b := 0) (i := 11) (k := 1) (ci := 6) [.int (x1 + 8)] C0 hT hJ hE (met_X8_isCrc l dC dI cyI cyE tC ad q137.2 (x1 + 8) _ hq) hP hS mc_X8_isCrc ml_X8_174 mi_X8_isCrc ms_X8_isCrc mz_X8 (by decide +kernel) ⟨rfl, rfl⟩ ⟨by decide, by decide⟩ (by decide) cM_O rfl rfl rfl hl.1 (Nat.le_of_ble_eq_true rfl) dX8_saved_148 ⟨Nat.zero_le _, Nat.zero_le _⟩ (fun H locs hP hS => ?_)
                    refine lv_if_ne (tgt := 156) hx hb dX8_saved_151 (by decide) (fun h151 => ?_) (fun h151 => ?_)
                    · rw [if_neg h151] at hf
                      refine lv_aload_n hx hb dX8_saved_156 rfl (lv_at hl 2 rfl) ?_
                      refine lv_iload_n hx hb dX8_saved_157 rfl (lv_at hl 3 rfl) ?_
                      refine lv_bipush (v := 30) hx hb dX8_saved_158 (by decide) ?_
                      refine lv_iadd hx hb dX8_saved_160 ?_
                      refine lv_iload_n hx hb dX8_saved_161 rfl (lv_at hl 1 rfl) ?_
                      refine lv_aload_n hx hb dX8_saved_162 rfl (lv_at hl 2 rfl) ?_
                      refine g_Model_files C0 hT hE hP mf_X8_59 dX8_saved_163 ?_
                      obtain ⟨q166, hq, hf⟩ := ob_bind hf
                      refine ax_callVi (C := "") (b := 0) (i := 11) (k := 3) (ci := 6) [.int (x1 + 30), .int q66.1, .int (q148.2.1 3)] C0 hT hJ hE (met_X8_named l dC dI cyI cyE tC ad q148.2 (x1 + 30) q66.1 (q148.2.1 3) _ hq) hP hS mc_X8_named ml_X8_70 mi_X8_named ms_X8_named mz_X8 (by decide +kernel) ⟨rfl, rfl⟩ ⟨by decide, by decide⟩ (by decide) cM_O rfl rfl rfl hl.1 (Nat.le_of_ble_eq_true rfl) dX8_saved_166 ⟨Nat.zero_le _, Nat.zero_le _⟩ (fun H locs hP hS => ?_)
                      refine lv_istore (lv' := [(4, .int q166.1), (3, .int q76.1), (2, .int q66.1), (0, .ref (ad 11)), (1, .int x1)]) hx hb dX8_saved_169 hl (by decide) rfl (fun ls hl => ?_)
                      refine lv_aload_n hx hb dX8_saved_171 rfl (lv_at hl 3 rfl) ?_
                      obtain ⟨q172, hq, hf⟩ := ob_bind hf
                      refine ax_callVi (C := "") (b := 0) (i := 11) (k := 0) (ci := 6) [] C0 hT hJ hE (met_X8_total l dC dI cyI cyE tC ad q166.2 _ hq) hP hS mc_X8_total ml_X8_74 mi_X8_total ms_X8_total mz_X8 (by decide +kernel) ⟨rfl, rfl⟩ ⟨by decide, by decide⟩ (by decide) cM_O rfl rfl rfl hl.1 (Nat.le_of_ble_eq_true rfl) dX8_saved_172 ⟨Nat.zero_le _, Nat.zero_le _⟩ (fun H locs hP hS => ?_)
                      refine lv_iload hx hb dX8_saved_175 (lv_at hl 0 rfl) ?_
                      refine lv_iconst (v := (-1)) hx hb dX8_saved_177 (by decide) ?_
                      refine lv_icmp_ne (tgt := 185) hx hb dX8_saved_178 (by decide) (fun h178 => ?_) (fun h178 => ?_)
                      · rw [if_neg h178] at hf
                        refine lv_aload_n hx hb dX8_saved_185 rfl (lv_at hl 3 rfl) ?_
                        refine g_Model_many C0 hT hE hP mf_X8_28 dX8_saved_186 ?_
                        refine lv_iload hx hb dX8_saved_189 (lv_at hl 0 rfl) ?_
                        obtain ⟨hin, hf⟩ := ob_if hf
                        refine aM_ld (a := 6) (by decide) C0 hT hE hP (inb_in hin) dX8_saved_191 ?_
                        exact L192 _ _ _ _ _ _ _ _ _ hP hS (lv_sub hl [3, 4, 2, 1, 0] rfl) hf
                      · rw [if_pos h178] at hf
                        refine lv_iconst (v := 0) hx hb dX8_saved_181 (by decide) ?_
                        refine lv_goto (tgt := 192) hx hb dX8_saved_182 (by decide) ?_
                        exact L192 _ _ _ _ _ _ _ _ _ hP hS (lv_sub hl [3, 4, 2, 1, 0] rfl) hf
                    · rw [if_pos h151] at hf
                      refine lv_iconst (v := 0) hx hb dX8_saved_154 (by decide) ?_
                      exact hret _ _ _ _ _ _ rfl hf hP hS dX8_saved_155
                · rw [if_pos h121] at hf
                  refine lv_iconst (v := 0) hx hb dX8_saved_124 (by decide) ?_
                  exact hret _ _ _ _ _ _ rfl hf hP hS dX8_saved_125
          · rw [if_pos h55] at hf
            refine lv_iconst (v := 0) hx hb dX8_saved_58 (by decide) ?_
            exact hret _ _ _ _ _ _ rfl hf hP hS dX8_saved_59
def f_X8_save_45 (k9 : SM → Int32 → Int32 → Option (Int32 × SM)) (σ : SM) (x1 : Int32) (s0 : Int32) (s1 : Int32) : Option (Int32 × SM) := k9 σ x1 (s0 + s1)
def f_X8_save_33 (k9 : SM → Int32 → Int32 → Option (Int32 × SM)) (σ : SM) (x2 : Int32) (x3 : Int32) (s0 : Int32) (s1 : Int32) : Option (Int32 × SM) := if x3 ≤ 0 then (f_X8_save_45 k9 σ (s0 + s1) x2 1) else (f_X8_save_45 k9 σ (s0 + s1) x2 x3)
def f_X8_save_9 : Nat → SM → Int32 → Int32 → Option (Int32 × SM)
  | 0, _, _, _ => none
  | n + 1, σ, x1, x2 => if (σ.1 1) ≤ x2 then (some (x1, σ)) else ((f_X8_saved σ x2).bind fun q19 => if q19.1 ≤ 0 then (f_X8_save_33 (f_X8_save_9 n) q19.2 x2 q19.1 x1 0) else (f_X8_save_33 (f_X8_save_9 n) q19.2 x2 q19.1 x1 1))
def f_X8_save (σ : SM) : Option (Int32 × SM) := f_X8_save_9 fu (SMi σ 0 0) 0 0
def rm_X8_save : Room := { frames := 5, cells := 0, slots := 0, locals := 129 }
set_option maxHeartbeats 4000000 in
set_option maxRecDepth 100000 in
theorem met_X8_save (l : Launch) (dC : Nat → ClassId) (dI : Nat → Nat → Nat) (cyI cyE : ClassId) (tC : Nat) (ad : Nat → Nat) (σ : SM) (res : Int32 × SM) (hf : f_X8_save σ = some res) : ax_Mi l dC dI cyI cyE tC 12 (cM cyI ad) ad yX8_save cX8_save 4 (some .int) rm_X8_save [.ref (ad 11)] σ res.1 res.2 := by
  intro sz
  refine Met.ofW (cc := cX8_save) (maxL := 4) (ret := (some .int)) (by decide) rfl ?_
  intro p e s m args below meth c s₁ B hml hv
  obtain ⟨hargs, hsz, hP, hJ, hE⟩ := hv
  subst hsz
  have hx := B.exec
  have hb := B.bytes
  have hr := B.returns
  have hlocks := B.notSynchronized
  have hts := atoms_spec (ws := wsY yX8_save cX8_save 4 (some .int)) B.pre
  have hown : s.vm.findClass RX8 = some m.cls := findClass_of_methodNamed B.named
  have C0 : CallFix p m c cX8_save 4 s args (wsY yX8_save cX8_save 4 (some .int)) RX8 := ⟨hx, hb, hml, hown, hts⟩
  have hT : ∀ w ∈ bw, w ∈ wsY yX8_save cX8_save 4 (some .int) := fun w h => List.mem_cons_of_mem _ h
  have hS : va_S (ax_A 12 ad s.heap.size) s.heap s.heap [] := va_S.rf
  rw [show entryFrame m args 4 = entryFrame m ([.ref (ad 11)] : List Value).toArray 4 by rw [hargs]]
  have hl := lv_entry ([.ref (ad 11)]) (n := 4) (Nat.le_of_ble_eq_true rfl)
  rw [lg_entry_eq]
  generalize (lg_sl ([.ref (ad 11)]) ++ List.replicate (4 - (lg_sl ([.ref (ad 11)])).length) Slot.unset).toArray = ls at hl ⊢
  have hl : lv_has ls 4 [(0, .ref (ad 11))] := hl
  obtain ⟨Q, hQ⟩ : ∃ Q : State → Prop, Q = MQ below (va_Qi (fun (a : Int32) (u : SM) => a = res.1 ∧ u = res.2) (ax_B dC dI 12 (cM cyI ad) ad) (ax_A 12 ad s.heap.size)) args s 0 0 (ax_A 12 ad s.heap.size) := ⟨_, rfl⟩
  show W p l e rm_X8_save s m args below meth c s.heap [] 0 0 _ _
  rw [← hQ]
  have hret : ∀ (v : Int32) (σ : SM) (H : Heap) (locs : List Loc) (ls : Array Slot) (pc : Nat), narrow .int (.int v) = .int v → some (v, σ) = some res → va_P (dC, dI) vwCl (ax_w 12 ad (cM cyI ad σ)) H → va_S (ax_A 12 ad s.heap.size) s.heap H locs → decode cX8_save pc = .ok (.ireturn, 1) → W p l e rm_X8_save s m args below meth c H locs 0 0 Q (F0 m pc ls [.int v]) := by
    intro v σ H locs ls pc hn hf hP hS hd
    cases hf
    rw [hQ]
    exact ax_iret hx hb hr hlocks hn hP hS hd rfl rfl
  have L45 : ∀ (k9 : SM → Int32 → Int32 → Option (Int32 × SM)), (∀ (σ : SM) (x1 : Int32) (x2 : Int32), ∀ (H : Heap) (locs : List Loc) (ls : Array Slot), va_P (dC, dI) vwCl (ax_w 12 ad (cM cyI ad σ)) H → va_S (ax_A 12 ad s.heap.size) s.heap H locs → lv_has ls 4 [(0, .ref (ad 11)), (1, .int x1), (2, .int x2)] → k9 σ x1 x2 = some res → W p l e rm_X8_save s m args below meth c H locs 0 0 Q (F0 m 9 ls [])) → ∀ (σ : SM) (x1 : Int32) (s0 : Int32) (s1 : Int32), ∀ (H : Heap) (locs : List Loc) (ls : Array Slot), va_P (dC, dI) vwCl (ax_w 12 ad (cM cyI ad σ)) H → va_S (ax_A 12 ad s.heap.size) s.heap H locs → lv_has ls 4 [(0, .ref (ad 11)), (1, .int x1)] → f_X8_save_45 k9 σ x1 s0 s1 = some res → W p l e rm_X8_save s m args below meth c H locs 0 0 Q (F0 m 45 ls [.int s1, .int s0]) := by
    intro k9 hk9
    intro σ x1 s0 s1  H locs ls hP hS hl hf
    unfold f_X8_save_45 at hf
    refine lv_iadd hx hb dX8_save_45 ?_
    refine lv_istore_n (lv' := [(2, .int (s0 + s1)), (0, .ref (ad 11)), (1, .int x1)]) hx hb dX8_save_46 rfl hl (by decide) rfl (fun ls hl => ?_)
    refine lv_goto (tgt := 9) hx hb dX8_save_47 (by decide) ?_
    exact hk9 _ _ _ _ _ _ hP hS (lv_sub hl [1, 2, 0] rfl) hf
  have L33 : ∀ (k9 : SM → Int32 → Int32 → Option (Int32 × SM)), (∀ (σ : SM) (x1 : Int32) (x2 : Int32), ∀ (H : Heap) (locs : List Loc) (ls : Array Slot), va_P (dC, dI) vwCl (ax_w 12 ad (cM cyI ad σ)) H → va_S (ax_A 12 ad s.heap.size) s.heap H locs → lv_has ls 4 [(0, .ref (ad 11)), (1, .int x1), (2, .int x2)] → k9 σ x1 x2 = some res → W p l e rm_X8_save s m args below meth c H locs 0 0 Q (F0 m 9 ls [])) → ∀ (σ : SM) (x2 : Int32) (x3 : Int32) (s0 : Int32) (s1 : Int32), ∀ (H : Heap) (locs : List Loc) (ls : Array Slot), va_P (dC, dI) vwCl (ax_w 12 ad (cM cyI ad σ)) H → va_S (ax_A 12 ad s.heap.size) s.heap H locs → lv_has ls 4 [(0, .ref (ad 11)), (2, .int x2), (3, .int x3)] → f_X8_save_33 k9 σ x2 x3 s0 s1 = some res → W p l e rm_X8_save s m args below meth c H locs 0 0 Q (F0 m 33 ls [.int s1, .int s0]) := by
    intro k9 hk9
    intro σ x2 x3 s0 s1  H locs ls hP hS hl hf
    unfold f_X8_save_33 at hf
    refine lv_iadd hx hb dX8_save_33 ?_
    refine lv_istore_n (lv' := [(1, .int (s0 + s1)), (0, .ref (ad 11)), (2, .int x2), (3, .int x3)]) hx hb dX8_save_34 rfl hl (by decide) rfl (fun ls hl => ?_)
    refine lv_iload_n hx hb dX8_save_35 rfl (lv_at hl 2 rfl) ?_
    refine lv_iload_n hx hb dX8_save_36 rfl (lv_at hl 3 rfl) ?_
    refine lv_if_le (tgt := 44) hx hb dX8_save_37 (by decide) (fun h37 => ?_) (fun h37 => ?_)
    · rw [if_pos h37] at hf
      refine lv_iconst (v := 1) hx hb dX8_save_44 (by decide) ?_
      exact L45 _ hk9 _ _ _ _ _ _ _ hP hS (lv_sub hl [1, 0] rfl) hf
    · rw [if_neg h37] at hf
      refine lv_iload_n hx hb dX8_save_40 rfl (lv_at hl 3 rfl) ?_
      refine lv_goto (tgt := 45) hx hb dX8_save_41 (by decide) ?_
      exact L45 _ hk9 _ _ _ _ _ _ _ hP hS (lv_sub hl [1, 0] rfl) hf
  have L9 : ∀ (n : Nat), ∀ (σ : SM) (x1 : Int32) (x2 : Int32), ∀ (H : Heap) (locs : List Loc) (ls : Array Slot), va_P (dC, dI) vwCl (ax_w 12 ad (cM cyI ad σ)) H → va_S (ax_A 12 ad s.heap.size) s.heap H locs → lv_has ls 4 [(0, .ref (ad 11)), (1, .int x1), (2, .int x2)] → f_X8_save_9 n σ x1 x2 = some res → W p l e rm_X8_save s m args below meth c H locs 0 0 Q (F0 m 9 ls []) := by
    intro n
    induction n with
    | zero =>
      intro σ x1 x2  H locs ls hP hS hl hf
      cases hf
    | succ n ih =>
      intro σ x1 x2  H locs ls hP hS hl hf
      rw [f_X8_save_9] at hf
      refine lv_iload_n hx hb dX8_save_9 rfl (lv_at hl 2 rfl) ?_
      refine lv_aload_n hx hb dX8_save_10 rfl (lv_at hl 0 rfl) ?_
      refine g_Model_size C0 hT hE hP mf_X8_53 dX8_save_11 ?_
      refine lv_icmp_ge (tgt := 50) hx hb dX8_save_14 (by decide) (fun h14 => ?_) (fun h14 => ?_)
      · rw [if_pos h14] at hf
        refine lv_iload_n hx hb dX8_save_50 rfl (lv_at hl 1 rfl) ?_
        exact hret _ _ _ _ _ _ rfl hf hP hS dX8_save_51
      · rw [if_neg h14] at hf
        refine lv_aload_n hx hb dX8_save_17 rfl (lv_at hl 0 rfl) ?_
        refine lv_iload_n hx hb dX8_save_18 rfl (lv_at hl 2 rfl) ?_
        obtain ⟨q19, hq, hf⟩ := ob_bind hf
        refine ax_callVi (C := "") (b := 0) (i := 11) (k := 1) (ci := 6) [.int x2] C0 hT hJ hE (met_X8_saved l dC dI cyI cyE tC ad σ x2 _ hq) hP hS mc_X8_saved ml_X8_193 mi_X8_saved ms_X8_saved mz_X8 (by decide +kernel) ⟨rfl, rfl⟩ ⟨by decide, by decide⟩ (by decide) cM_O rfl rfl rfl hl.1 (Nat.le_of_ble_eq_true rfl) dX8_save_19 ⟨Nat.zero_le _, Nat.zero_le _⟩ (fun H locs hP hS => ?_)
        refine lv_istore_n (lv' := [(3, .int q19.1), (0, .ref (ad 11)), (1, .int x1), (2, .int x2)]) hx hb dX8_save_22 rfl hl (by decide) rfl (fun ls hl => ?_)
        refine lv_iload_n hx hb dX8_save_23 rfl (lv_at hl 2 rfl) ?_
        refine lv_iload_n hx hb dX8_save_24 rfl (lv_at hl 0 rfl) ?_
        refine lv_if_le (tgt := 32) hx hb dX8_save_25 (by decide) (fun h25 => ?_) (fun h25 => ?_)
        · rw [if_pos h25] at hf
          refine lv_iconst (v := 0) hx hb dX8_save_32 (by decide) ?_
          exact L33 _ ih _ _ _ _ _ _ _ _ hP hS (lv_sub hl [1, 3, 0] rfl) hf
        · rw [if_neg h25] at hf
          refine lv_iconst (v := 1) hx hb dX8_save_28 (by decide) ?_
          refine lv_goto (tgt := 33) hx hb dX8_save_29 (by decide) ?_
          exact L33 _ ih _ _ _ _ _ _ _ _ hP hS (lv_sub hl [1, 3, 0] rfl) hf
  unfold f_X8_save at hf
  refine lv_aload_n hx hb dX8_save_0 rfl (lv_at hl 0 rfl) ?_
  refine lv_iconst (v := 0) hx hb dX8_save_1 (by decide) ?_
  refine p_Model_thrown C0 hT hE hJ hP hS mf_X8_50 dX8_save_2 (fun H locs hP hS => ?_)
  refine lv_iconst (v := 0) hx hb dX8_save_5 (by decide) ?_
  refine lv_istore_n (lv' := [(1, .int 0), (0, .ref (ad 11))]) hx hb dX8_save_6 rfl hl (by decide) rfl (fun ls hl => ?_)
  refine lv_iconst (v := 0) hx hb dX8_save_7 (by decide) ?_
  refine lv_istore_n (lv' := [(2, .int 0), (1, .int 0), (0, .ref (ad 11))]) hx hb dX8_save_8 rfl hl (by decide) rfl (fun ls hl => ?_)
  exact L9 fu _ _ _ _ _ _ hP hS (lv_sub hl [2, 1, 0] rfl) hf
def f_X8_file (σ : SM) (x1 : Int32) (x2 : Int32) : Option (Int32 × SM) := (f_X8_isFile (SMi σ 0 0) x1).bind fun q7 => if q7.1 = 0 then (some ((-1), q7.2)) else (if x2.toInt < 0 ∨ 4 < x2.toInt then (some ((-1), q7.2)) else (if x2 = 0 then (if inb x1 (capM 4) = true then (some (q7.2.2 4 x1.toNatClampNeg, q7.2)) else none) else (if x2 = 1 then (if inb x1 (capM 6) = true then (some (q7.2.2 6 x1.toNatClampNeg, q7.2)) else none) else (if x2 = 2 then ((f_X8_packedSize q7.2 x1).bind fun q68 => some (q68.1, q68.2)) else (if x2 = 3 then ((f_X8_method q7.2 x1).bind fun q74 => some (q74.1, q74.2)) else (if x2 = 4 then ((f_X8_crc q7.2 x1).bind fun q80 => some (q80.1, q80.2)) else (none)))))))
def rm_X8_file : Room := { frames := 4, cells := 0, slots := 0, locals := 91 }
set_option maxHeartbeats 4000000 in
set_option maxRecDepth 100000 in
theorem met_X8_file (l : Launch) (dC : Nat → ClassId) (dI : Nat → Nat → Nat) (cyI cyE : ClassId) (tC : Nat) (ad : Nat → Nat) (σ : SM) (x1 : Int32) (x2 : Int32) (res : Int32 × SM) (hf : f_X8_file σ x1 x2 = some res) : ax_Mi l dC dI cyI cyE tC 12 (cM cyI ad) ad yX8_file cX8_file 3 (some .int) rm_X8_file [.ref (ad 11), .int x1, .int x2] σ res.1 res.2 := by
  intro sz
  refine Met.ofW (cc := cX8_file) (maxL := 3) (ret := (some .int)) (by decide) rfl ?_
  intro p e s m args below meth c s₁ B hml hv
  obtain ⟨hargs, hsz, hP, hJ, hE⟩ := hv
  subst hsz
  have hx := B.exec
  have hb := B.bytes
  have hr := B.returns
  have hlocks := B.notSynchronized
  have hts := atoms_spec (ws := wsY yX8_file cX8_file 3 (some .int)) B.pre
  have hown : s.vm.findClass RX8 = some m.cls := findClass_of_methodNamed B.named
  have C0 : CallFix p m c cX8_file 3 s args (wsY yX8_file cX8_file 3 (some .int)) RX8 := ⟨hx, hb, hml, hown, hts⟩
  have hT : ∀ w ∈ bw, w ∈ wsY yX8_file cX8_file 3 (some .int) := fun w h => List.mem_cons_of_mem _ h
  have hS : va_S (ax_A 12 ad s.heap.size) s.heap s.heap [] := va_S.rf
  rw [show entryFrame m args 3 = entryFrame m ([.ref (ad 11), .int x1, .int x2] : List Value).toArray 3 by rw [hargs]]
  have hl := lv_entry ([.ref (ad 11), .int x1, .int x2]) (n := 3) (Nat.le_of_ble_eq_true rfl)
  rw [lg_entry_eq]
  generalize (lg_sl ([.ref (ad 11), .int x1, .int x2]) ++ List.replicate (3 - (lg_sl ([.ref (ad 11), .int x1, .int x2])).length) Slot.unset).toArray = ls at hl ⊢
  have hl : lv_has ls 3 [(0, .ref (ad 11)), (1, .int x1), (2, .int x2)] := hl
  obtain ⟨Q, hQ⟩ : ∃ Q : State → Prop, Q = MQ below (va_Qi (fun (a : Int32) (u : SM) => a = res.1 ∧ u = res.2) (ax_B dC dI 12 (cM cyI ad) ad) (ax_A 12 ad s.heap.size)) args s 0 0 (ax_A 12 ad s.heap.size) := ⟨_, rfl⟩
  show W p l e rm_X8_file s m args below meth c s.heap [] 0 0 _ _
  rw [← hQ]
  have hret : ∀ (v : Int32) (σ : SM) (H : Heap) (locs : List Loc) (ls : Array Slot) (pc : Nat), narrow .int (.int v) = .int v → some (v, σ) = some res → va_P (dC, dI) vwCl (ax_w 12 ad (cM cyI ad σ)) H → va_S (ax_A 12 ad s.heap.size) s.heap H locs → decode cX8_file pc = .ok (.ireturn, 1) → W p l e rm_X8_file s m args below meth c H locs 0 0 Q (F0 m pc ls [.int v]) := by
    intro v σ H locs ls pc hn hf hP hS hd
    cases hf
    rw [hQ]
    exact ax_iret hx hb hr hlocks hn hP hS hd rfl rfl
  unfold f_X8_file at hf
  refine lv_aload_n hx hb dX8_file_0 rfl (lv_at hl 0 rfl) ?_
  refine lv_iconst (v := 0) hx hb dX8_file_1 (by decide) ?_
  refine p_Model_thrown C0 hT hE hJ hP hS mf_X8_50 dX8_file_2 (fun H locs hP hS => ?_)
  refine lv_aload_n hx hb dX8_file_5 rfl (lv_at hl 0 rfl) ?_
  refine lv_iload_n hx hb dX8_file_6 rfl (lv_at hl 1 rfl) ?_
  obtain ⟨q7, hq, hf⟩ := ob_bind hf
  refine ax_callVi (C := "") (b := 0) (i := 11) (k := 1) (ci := 6) [.int x1] C0 hT hJ hE (met_X8_isFile l dC dI cyI cyE tC ad (SMi σ 0 0) x1 _ hq) hP hS mc_X8_isFile ml_X8_85 mi_X8_isFile ms_X8_isFile mz_X8 (by decide +kernel) ⟨rfl, rfl⟩ ⟨by decide, by decide⟩ (by decide) cM_O rfl rfl rfl hl.1 (Nat.le_of_ble_eq_true rfl) dX8_file_7 ⟨Nat.zero_le _, Nat.zero_le _⟩ (fun H locs hP hS => ?_)
  refine lv_if_ne (tgt := 15) hx hb dX8_file_10 (by decide) (fun h10 => ?_) (fun h10 => ?_)
  · rw [if_neg h10] at hf
    refine lv_iload_n hx hb dX8_file_15 rfl (lv_at hl 2 rfl) ?_
    by_cases h16 : x2.toInt < 0 ∨ 4 < x2.toInt
    · rw [if_pos h16] at hf
      refine lv_tableOut (tgt := 84) hx hb dX8_file_16 h16 (by decide) ?_
      refine lv_iconst (v := (-1)) hx hb dX8_file_84 (by decide) ?_
      exact hret _ _ _ _ _ _ rfl hf hP hS dX8_file_85
    · rw [if_neg h16] at hf
      by_cases h16_0 : x2 = 0
      · rw [if_pos h16_0] at hf
        refine lv_tableIn (off := 36) (tgt := 52) hx hb dX8_file_16 (fun q => h16 (Or.inl q)) (fun q => h16 (Or.inr q)) (by rw [h16_0]; rfl) (by decide) ?_
        refine lv_aload_n hx hb dX8_file_52 rfl (lv_at hl 0 rfl) ?_
        refine g_Model_nameSize C0 hT hE hP mf_X8_22 dX8_file_53 ?_
        refine lv_iload_n hx hb dX8_file_56 rfl (lv_at hl 1 rfl) ?_
        obtain ⟨hin, hf⟩ := ob_if hf
        refine aM_ld (a := 4) (by decide) C0 hT hE hP (inb_in hin) dX8_file_57 ?_
        exact hret _ _ _ _ _ _ rfl hf hP hS dX8_file_58
      · rw [if_neg h16_0] at hf
        by_cases h16_1 : x2 = 1
        · rw [if_pos h16_1] at hf
          refine lv_tableIn (off := 43) (tgt := 59) hx hb dX8_file_16 (fun q => h16 (Or.inl q)) (fun q => h16 (Or.inr q)) (by rw [h16_1]; rfl) (by decide) ?_
          refine lv_aload_n hx hb dX8_file_59 rfl (lv_at hl 0 rfl) ?_
          refine g_Model_many C0 hT hE hP mf_X8_28 dX8_file_60 ?_
          refine lv_iload_n hx hb dX8_file_63 rfl (lv_at hl 1 rfl) ?_
          obtain ⟨hin, hf⟩ := ob_if hf
          refine aM_ld (a := 6) (by decide) C0 hT hE hP (inb_in hin) dX8_file_64 ?_
          exact hret _ _ _ _ _ _ rfl hf hP hS dX8_file_65
        · rw [if_neg h16_1] at hf
          by_cases h16_2 : x2 = 2
          · rw [if_pos h16_2] at hf
            refine lv_tableIn (off := 50) (tgt := 66) hx hb dX8_file_16 (fun q => h16 (Or.inl q)) (fun q => h16 (Or.inr q)) (by rw [h16_2]; rfl) (by decide) ?_
            refine lv_aload_n hx hb dX8_file_66 rfl (lv_at hl 0 rfl) ?_
            refine lv_iload_n hx hb dX8_file_67 rfl (lv_at hl 1 rfl) ?_
            obtain ⟨q68, hq, hf⟩ := ob_bind hf
            refine ax_callVi (C := "") (b := 0) (i := 11) (k := 1) (ci := 6) [.int x1] C0 hT hJ hE (met_X8_packedSize l dC dI cyI cyE tC ad q7.2 x1 _ hq) hP hS mc_X8_packedSize ml_X8_120 mi_X8_packedSize ms_X8_packedSize mz_X8 (by decide +kernel) ⟨rfl, rfl⟩ ⟨by decide, by decide⟩ (by decide) cM_O rfl rfl rfl hl.1 (Nat.le_of_ble_eq_true rfl) dX8_file_68 ⟨Nat.zero_le _, Nat.zero_le _⟩ (fun H locs hP hS => ?_)
            exact hret _ _ _ _ _ _ rfl hf hP hS dX8_file_71
          · rw [if_neg h16_2] at hf
            by_cases h16_3 : x2 = 3
            · rw [if_pos h16_3] at hf
              refine lv_tableIn (off := 56) (tgt := 72) hx hb dX8_file_16 (fun q => h16 (Or.inl q)) (fun q => h16 (Or.inr q)) (by rw [h16_3]; rfl) (by decide) ?_
              refine lv_aload_n hx hb dX8_file_72 rfl (lv_at hl 0 rfl) ?_
              refine lv_iload_n hx hb dX8_file_73 rfl (lv_at hl 1 rfl) ?_
              obtain ⟨q74, hq, hf⟩ := ob_bind hf
              refine ax_callVi (C := "") (b := 0) (i := 11) (k := 1) (ci := 6) [.int x1] C0 hT hJ hE (met_X8_method l dC dI cyI cyE tC ad q7.2 x1 _ hq) hP hS mc_X8_method ml_X8_109 mi_X8_method ms_X8_method mz_X8 (by decide +kernel) ⟨rfl, rfl⟩ ⟨by decide, by decide⟩ (by decide) cM_O rfl rfl rfl hl.1 (Nat.le_of_ble_eq_true rfl) dX8_file_74 ⟨Nat.zero_le _, Nat.zero_le _⟩ (fun H locs hP hS => ?_)
              exact hret _ _ _ _ _ _ rfl hf hP hS dX8_file_77
            · rw [if_neg h16_3] at hf
              by_cases h16_4 : x2 = 4
              · rw [if_pos h16_4] at hf
                refine lv_tableIn (off := 62) (tgt := 78) hx hb dX8_file_16 (fun q => h16 (Or.inl q)) (fun q => h16 (Or.inr q)) (by rw [h16_4]; rfl) (by decide) ?_
                refine lv_aload_n hx hb dX8_file_78 rfl (lv_at hl 0 rfl) ?_
                refine lv_iload_n hx hb dX8_file_79 rfl (lv_at hl 1 rfl) ?_
                obtain ⟨q80, hq, hf⟩ := ob_bind hf
                refine ax_callVi (C := "") (b := 0) (i := 11) (k := 1) (ci := 6) [.int x1] C0 hT hJ hE (met_X8_crc l dC dI cyI cyE tC ad q7.2 x1 _ hq) hP hS mc_X8_crc ml_X8_117 mi_X8_crc ms_X8_crc mz_X8 (by decide +kernel) ⟨rfl, rfl⟩ ⟨by decide, by decide⟩ (by decide) cM_O rfl rfl rfl hl.1 (Nat.le_of_ble_eq_true rfl) dX8_file_80 ⟨Nat.zero_le _, Nat.zero_le _⟩ (fun H locs hP hS => ?_)
                exact hret _ _ _ _ _ _ rfl hf hP hS dX8_file_83
              · rw [if_neg h16_4] at hf
                cases hf
  · rw [if_pos h10] at hf
    refine lv_iconst (v := (-1)) hx hb dX8_file_13 (by decide) ?_
    exact hret _ _ _ _ _ _ rfl hf hP hS dX8_file_14
def f_X8_letter_37 (x1 : Int32) (x2 : Int32) (x3 : Int32) (σ : SM) (s1 : Int32) : Option (Int32 × SM) := if x3 < s1 then (if x2 = 0 then (if inb ((1500 * x1) + x3) (capM 5) = true then (some (σ.2 5 ((1500 * x1) + x3).toNatClampNeg, σ)) else none) else (if inb ((30 * x1) + x3) (capM 3) = true then (some (σ.2 3 ((30 * x1) + x3).toNatClampNeg, σ)) else none)) else (some ((-1), σ))
def f_X8_letter (σ : SM) (x1 : Int32) (x2 : Int32) (x3 : Int32) : Option (Int32 × SM) := (f_X8_isFile (SMi σ 0 0) x1).bind fun q7 => if q7.1 = 0 then (some ((-1), q7.2)) else (if x3 < 0 then (some ((-1), q7.2)) else (if x2 = 0 then (if inb x1 (capM 6) = true then (f_X8_letter_37 x1 x2 x3 q7.2 (q7.2.2 6 x1.toNatClampNeg)) else none) else (if inb x1 (capM 4) = true then (f_X8_letter_37 x1 x2 x3 q7.2 (q7.2.2 4 x1.toNatClampNeg)) else none)))
def rm_X8_letter : Room := { frames := 1, cells := 0, slots := 0, locals := 21 }
set_option maxHeartbeats 4000000 in
set_option maxRecDepth 100000 in
theorem met_X8_letter (l : Launch) (dC : Nat → ClassId) (dI : Nat → Nat → Nat) (cyI cyE : ClassId) (tC : Nat) (ad : Nat → Nat) (σ : SM) (x1 : Int32) (x2 : Int32) (x3 : Int32) (res : Int32 × SM) (hf : f_X8_letter σ x1 x2 x3 = some res) : ax_Mi l dC dI cyI cyE tC 12 (cM cyI ad) ad yX8_letter cX8_letter 4 (some .int) rm_X8_letter [.ref (ad 11), .int x1, .int x2, .int x3] σ res.1 res.2 := by
  intro sz
  refine Met.ofW (cc := cX8_letter) (maxL := 4) (ret := (some .int)) (by decide) rfl ?_
  intro p e s m args below meth c s₁ B hml hv
  obtain ⟨hargs, hsz, hP, hJ, hE⟩ := hv
  subst hsz
  have hx := B.exec
  have hb := B.bytes
  have hr := B.returns
  have hlocks := B.notSynchronized
  have hts := atoms_spec (ws := wsY yX8_letter cX8_letter 4 (some .int)) B.pre
  have hown : s.vm.findClass RX8 = some m.cls := findClass_of_methodNamed B.named
  have C0 : CallFix p m c cX8_letter 4 s args (wsY yX8_letter cX8_letter 4 (some .int)) RX8 := ⟨hx, hb, hml, hown, hts⟩
  have hT : ∀ w ∈ bw, w ∈ wsY yX8_letter cX8_letter 4 (some .int) := fun w h => List.mem_cons_of_mem _ h
  have hS : va_S (ax_A 12 ad s.heap.size) s.heap s.heap [] := va_S.rf
  rw [show entryFrame m args 4 = entryFrame m ([.ref (ad 11), .int x1, .int x2, .int x3] : List Value).toArray 4 by rw [hargs]]
  have hl := lv_entry ([.ref (ad 11), .int x1, .int x2, .int x3]) (n := 4) (Nat.le_of_ble_eq_true rfl)
  rw [lg_entry_eq]
  generalize (lg_sl ([.ref (ad 11), .int x1, .int x2, .int x3]) ++ List.replicate (4 - (lg_sl ([.ref (ad 11), .int x1, .int x2, .int x3])).length) Slot.unset).toArray = ls at hl ⊢
  have hl : lv_has ls 4 [(0, .ref (ad 11)), (1, .int x1), (2, .int x2), (3, .int x3)] := hl
  obtain ⟨Q, hQ⟩ : ∃ Q : State → Prop, Q = MQ below (va_Qi (fun (a : Int32) (u : SM) => a = res.1 ∧ u = res.2) (ax_B dC dI 12 (cM cyI ad) ad) (ax_A 12 ad s.heap.size)) args s 0 0 (ax_A 12 ad s.heap.size) := ⟨_, rfl⟩
  show W p l e rm_X8_letter s m args below meth c s.heap [] 0 0 _ _
  rw [← hQ]
  have hret : ∀ (v : Int32) (σ : SM) (H : Heap) (locs : List Loc) (ls : Array Slot) (pc : Nat), narrow .int (.int v) = .int v → some (v, σ) = some res → va_P (dC, dI) vwCl (ax_w 12 ad (cM cyI ad σ)) H → va_S (ax_A 12 ad s.heap.size) s.heap H locs → decode cX8_letter pc = .ok (.ireturn, 1) → W p l e rm_X8_letter s m args below meth c H locs 0 0 Q (F0 m pc ls [.int v]) := by
    intro v σ H locs ls pc hn hf hP hS hd
    cases hf
    rw [hQ]
    exact ax_iret hx hb hr hlocks hn hP hS hd rfl rfl
  have L37 : ∀ (σ : SM) (s1 : Int32), ∀ (H : Heap) (locs : List Loc) (ls : Array Slot), va_P (dC, dI) vwCl (ax_w 12 ad (cM cyI ad σ)) H → va_S (ax_A 12 ad s.heap.size) s.heap H locs → lv_has ls 4 [(0, .ref (ad 11)), (1, .int x1), (2, .int x2), (3, .int x3)] → f_X8_letter_37 x1 x2 x3 σ s1 = some res → W p l e rm_X8_letter s m args below meth c H locs 0 0 Q (F0 m 37 ls [.int s1, .int x3]) := by
    intro σ s1  H locs ls hP hS hl hf
    unfold f_X8_letter_37 at hf
    refine lv_icmp_lt (tgt := 42) hx hb dX8_letter_37 (by decide) (fun h37 => ?_) (fun h37 => ?_)
    · rw [if_pos h37] at hf
      refine lv_iload_n hx hb dX8_letter_42 rfl (lv_at hl 2 rfl) ?_
      refine lv_if_eq (tgt := 60) hx hb dX8_letter_43 (by decide) (fun h43 => ?_) (fun h43 => ?_)
      · rw [if_pos h43] at hf
        refine lv_aload_n hx hb dX8_letter_60 rfl (lv_at hl 0 rfl) ?_
        refine g_Model_bytes C0 hT hE hP mf_X8_25 dX8_letter_61 ?_
        refine lv_sipush (v := 1500) hx hb dX8_letter_64 (by decide) ?_
        refine lv_iload_n hx hb dX8_letter_67 rfl (lv_at hl 1 rfl) ?_
        refine lv_imul hx hb dX8_letter_68 ?_
        refine lv_iload_n hx hb dX8_letter_69 rfl (lv_at hl 3 rfl) ?_
        refine lv_iadd hx hb dX8_letter_70 ?_
        obtain ⟨hin, hf⟩ := ob_if hf
        refine aM_ld (a := 5) (by decide) C0 hT hE hP (inb_in hin) dX8_letter_71 ?_
        exact hret _ _ _ _ _ _ rfl hf hP hS dX8_letter_72
      · rw [if_neg h43] at hf
        refine lv_aload_n hx hb dX8_letter_46 rfl (lv_at hl 0 rfl) ?_
        refine g_Model_names C0 hT hE hP mf_X8_19 dX8_letter_47 ?_
        refine lv_bipush (v := 30) hx hb dX8_letter_50 (by decide) ?_
        refine lv_iload_n hx hb dX8_letter_52 rfl (lv_at hl 1 rfl) ?_
        refine lv_imul hx hb dX8_letter_53 ?_
        refine lv_iload_n hx hb dX8_letter_54 rfl (lv_at hl 3 rfl) ?_
        refine lv_iadd hx hb dX8_letter_55 ?_
        obtain ⟨hin, hf⟩ := ob_if hf
        refine aM_ld (a := 3) (by decide) C0 hT hE hP (inb_in hin) dX8_letter_56 ?_
        refine lv_goto (tgt := 72) hx hb dX8_letter_57 (by decide) ?_
        exact hret _ _ _ _ _ _ rfl hf hP hS dX8_letter_72
    · rw [if_neg h37] at hf
      refine lv_iconst (v := (-1)) hx hb dX8_letter_40 (by decide) ?_
      exact hret _ _ _ _ _ _ rfl hf hP hS dX8_letter_41
  unfold f_X8_letter at hf
  refine lv_aload_n hx hb dX8_letter_0 rfl (lv_at hl 0 rfl) ?_
  refine lv_iconst (v := 0) hx hb dX8_letter_1 (by decide) ?_
  refine p_Model_thrown C0 hT hE hJ hP hS mf_X8_50 dX8_letter_2 (fun H locs hP hS => ?_)
  refine lv_aload_n hx hb dX8_letter_5 rfl (lv_at hl 0 rfl) ?_
  refine lv_iload_n hx hb dX8_letter_6 rfl (lv_at hl 1 rfl) ?_
  obtain ⟨q7, hq, hf⟩ := ob_bind hf
  refine ax_callVi (C := "") (b := 0) (i := 11) (k := 1) (ci := 6) [.int x1] C0 hT hJ hE (met_X8_isFile l dC dI cyI cyE tC ad (SMi σ 0 0) x1 _ hq) hP hS mc_X8_isFile ml_X8_85 mi_X8_isFile ms_X8_isFile mz_X8 (by decide +kernel) ⟨rfl, rfl⟩ ⟨by decide, by decide⟩ (by decide) cM_O rfl rfl rfl hl.1 (Nat.le_of_ble_eq_true rfl) dX8_letter_7 ⟨Nat.zero_le _, Nat.zero_le _⟩ (fun H locs hP hS => ?_)
  refine lv_if_eq (tgt := 40) hx hb dX8_letter_10 (by decide) (fun h10 => ?_) (fun h10 => ?_)
  · rw [if_pos h10] at hf
    refine lv_iconst (v := (-1)) hx hb dX8_letter_40 (by decide) ?_
    exact hret _ _ _ _ _ _ rfl hf hP hS dX8_letter_41
  · rw [if_neg h10] at hf
    refine lv_iload_n hx hb dX8_letter_13 rfl (lv_at hl 3 rfl) ?_
    refine lv_if_lt (tgt := 40) hx hb dX8_letter_14 (by decide) (fun h14 => ?_) (fun h14 => ?_)
    · rw [if_pos h14] at hf
      refine lv_iconst (v := (-1)) hx hb dX8_letter_40 (by decide) ?_
      exact hret _ _ _ _ _ _ rfl hf hP hS dX8_letter_41
    · rw [if_neg h14] at hf
      refine lv_iload_n hx hb dX8_letter_17 rfl (lv_at hl 3 rfl) ?_
      refine lv_iload_n hx hb dX8_letter_18 rfl (lv_at hl 2 rfl) ?_
      refine lv_if_eq (tgt := 31) hx hb dX8_letter_19 (by decide) (fun h19 => ?_) (fun h19 => ?_)
      · rw [if_pos h19] at hf
        refine lv_aload_n hx hb dX8_letter_31 rfl (lv_at hl 0 rfl) ?_
        refine g_Model_many C0 hT hE hP mf_X8_28 dX8_letter_32 ?_
        refine lv_iload_n hx hb dX8_letter_35 rfl (lv_at hl 1 rfl) ?_
        obtain ⟨hin, hf⟩ := ob_if hf
        refine aM_ld (a := 6) (by decide) C0 hT hE hP (inb_in hin) dX8_letter_36 ?_
        exact L37 _ _ _ _ _ hP hS (lv_sub hl [0, 1, 2, 3] rfl) hf
      · rw [if_neg h19] at hf
        refine lv_aload_n hx hb dX8_letter_22 rfl (lv_at hl 0 rfl) ?_
        refine g_Model_nameSize C0 hT hE hP mf_X8_22 dX8_letter_23 ?_
        refine lv_iload_n hx hb dX8_letter_26 rfl (lv_at hl 1 rfl) ?_
        obtain ⟨hin, hf⟩ := ob_if hf
        refine aM_ld (a := 4) (by decide) C0 hT hE hP (inb_in hin) dX8_letter_27 ?_
        refine lv_goto (tgt := 37) hx hb dX8_letter_28 (by decide) ?_
        exact L37 _ _ _ _ _ hP hS (lv_sub hl [0, 1, 2, 3] rfl) hf
def f_X8_find (σ : SM) : Option (Int32 × SM) := (f_X8_isName (SMi σ 0 0) 0 ((SMi σ 0 0).1 1)).bind fun q11 => if q11.1 = 0 then (some ((-1), q11.2)) else ((f_X8_named q11.2 0 (q11.2.1 1) (q11.2.1 3)).bind fun q27 => some (q27.1, q27.2))
def rm_X8_find : Room := { frames := 1, cells := 0, slots := 0, locals := 26 }
set_option maxHeartbeats 4000000 in
set_option maxRecDepth 100000 in
theorem met_X8_find (l : Launch) (dC : Nat → ClassId) (dI : Nat → Nat → Nat) (cyI cyE : ClassId) (tC : Nat) (ad : Nat → Nat) (σ : SM) (res : Int32 × SM) (hf : f_X8_find σ = some res) : ax_Mi l dC dI cyI cyE tC 12 (cM cyI ad) ad yX8_find cX8_find 1 (some .int) rm_X8_find [.ref (ad 11)] σ res.1 res.2 := by
  intro sz
  refine Met.ofW (cc := cX8_find) (maxL := 1) (ret := (some .int)) (by decide) rfl ?_
  intro p e s m args below meth c s₁ B hml hv
  obtain ⟨hargs, hsz, hP, hJ, hE⟩ := hv
  subst hsz
  have hx := B.exec
  have hb := B.bytes
  have hr := B.returns
  have hlocks := B.notSynchronized
  have hts := atoms_spec (ws := wsY yX8_find cX8_find 1 (some .int)) B.pre
  have hown : s.vm.findClass RX8 = some m.cls := findClass_of_methodNamed B.named
  have C0 : CallFix p m c cX8_find 1 s args (wsY yX8_find cX8_find 1 (some .int)) RX8 := ⟨hx, hb, hml, hown, hts⟩
  have hT : ∀ w ∈ bw, w ∈ wsY yX8_find cX8_find 1 (some .int) := fun w h => List.mem_cons_of_mem _ h
  have hS : va_S (ax_A 12 ad s.heap.size) s.heap s.heap [] := va_S.rf
  rw [show entryFrame m args 1 = entryFrame m ([.ref (ad 11)] : List Value).toArray 1 by rw [hargs]]
  have hl := lv_entry ([.ref (ad 11)]) (n := 1) (Nat.le_of_ble_eq_true rfl)
  rw [lg_entry_eq]
  generalize (lg_sl ([.ref (ad 11)]) ++ List.replicate (1 - (lg_sl ([.ref (ad 11)])).length) Slot.unset).toArray = ls at hl ⊢
  have hl : lv_has ls 1 [(0, .ref (ad 11))] := hl
  obtain ⟨Q, hQ⟩ : ∃ Q : State → Prop, Q = MQ below (va_Qi (fun (a : Int32) (u : SM) => a = res.1 ∧ u = res.2) (ax_B dC dI 12 (cM cyI ad) ad) (ax_A 12 ad s.heap.size)) args s 0 0 (ax_A 12 ad s.heap.size) := ⟨_, rfl⟩
  show W p l e rm_X8_find s m args below meth c s.heap [] 0 0 _ _
  rw [← hQ]
  have hret : ∀ (v : Int32) (σ : SM) (H : Heap) (locs : List Loc) (ls : Array Slot) (pc : Nat), narrow .int (.int v) = .int v → some (v, σ) = some res → va_P (dC, dI) vwCl (ax_w 12 ad (cM cyI ad σ)) H → va_S (ax_A 12 ad s.heap.size) s.heap H locs → decode cX8_find pc = .ok (.ireturn, 1) → W p l e rm_X8_find s m args below meth c H locs 0 0 Q (F0 m pc ls [.int v]) := by
    intro v σ H locs ls pc hn hf hP hS hd
    cases hf
    rw [hQ]
    exact ax_iret hx hb hr hlocks hn hP hS hd rfl rfl
  unfold f_X8_find at hf
  refine lv_aload_n hx hb dX8_find_0 rfl (lv_at hl 0 rfl) ?_
  refine lv_iconst (v := 0) hx hb dX8_find_1 (by decide) ?_
  refine p_Model_thrown C0 hT hE hJ hP hS mf_X8_50 dX8_find_2 (fun H locs hP hS => ?_)
  refine lv_aload_n hx hb dX8_find_5 rfl (lv_at hl 0 rfl) ?_
  refine lv_iconst (v := 0) hx hb dX8_find_6 (by decide) ?_
  refine lv_aload_n hx hb dX8_find_7 rfl (lv_at hl 0 rfl) ?_
  refine g_Model_size C0 hT hE hP mf_X8_53 dX8_find_8 ?_
  obtain ⟨q11, hq, hf⟩ := ob_bind hf
  refine ax_callVi (C := "") (b := 0) (i := 11) (k := 2) (ci := 6) [.int 0, .int ((SMi σ 0 0).1 1)] C0 hT hJ hE (met_X8_isName l dC dI cyI cyE tC ad (SMi σ 0 0) 0 ((SMi σ 0 0).1 1) _ hq) hP hS mc_X8_isName ml_X8_66 mi_X8_isName ms_X8_isName mz_X8 (by decide +kernel) ⟨rfl, rfl⟩ ⟨by decide, by decide⟩ (by decide) cM_O rfl rfl rfl hl.1 (Nat.le_of_ble_eq_true rfl) dX8_find_11 ⟨Nat.zero_le _, Nat.zero_le _⟩ (fun H locs hP hS => ?_)
  refine lv_if_eq (tgt := 33) hx hb dX8_find_14 (by decide) (fun h14 => ?_) (fun h14 => ?_)
  · rw [if_pos h14] at hf
    refine lv_iconst (v := (-1)) hx hb dX8_find_33 (by decide) ?_
    exact hret _ _ _ _ _ _ rfl hf hP hS dX8_find_34
  · rw [if_neg h14] at hf
    refine lv_aload_n hx hb dX8_find_17 rfl (lv_at hl 0 rfl) ?_
    refine lv_iconst (v := 0) hx hb dX8_find_18 (by decide) ?_
    refine lv_aload_n hx hb dX8_find_19 rfl (lv_at hl 0 rfl) ?_
    refine g_Model_size C0 hT hE hP mf_X8_53 dX8_find_20 ?_
    refine lv_aload_n hx hb dX8_find_23 rfl (lv_at hl 0 rfl) ?_
    refine g_Model_files C0 hT hE hP mf_X8_59 dX8_find_24 ?_
    obtain ⟨q27, hq, hf⟩ := ob_bind hf
    refine ax_callVi (C := "") (b := 0) (i := 11) (k := 3) (ci := 6) [.int 0, .int (q11.2.1 1), .int (q11.2.1 3)] C0 hT hJ hE (met_X8_named l dC dI cyI cyE tC ad q11.2 0 (q11.2.1 1) (q11.2.1 3) _ hq) hP hS mc_X8_named ml_X8_70 mi_X8_named ms_X8_named mz_X8 (by decide +kernel) ⟨rfl, rfl⟩ ⟨by decide, by decide⟩ (by decide) cM_O rfl rfl rfl hl.1 (Nat.le_of_ble_eq_true rfl) dX8_find_27 ⟨Nat.zero_le _, Nat.zero_le _⟩ (fun H locs hP hS => ?_)
    refine lv_goto (tgt := 34) hx hb dX8_find_30 (by decide) ?_
    exact hret _ _ _ _ _ _ rfl hf hP hS dX8_find_34
def f_X8_output (σ : SM) (x1 : Int32) : Option (Int32 × SM) := if x1 < 0 then (some ((-1), (SMi σ 0 0))) else (if x1 < ((SMi σ 0 0).1 2) then (if inb x1 (capM 2) = true then (some ((SMi σ 0 0).2 2 x1.toNatClampNeg, (SMi σ 0 0))) else none) else (some ((-1), (SMi σ 0 0))))
def rm_X8_output : Room := { frames := 0, cells := 0, slots := 0, locals := 0 }
set_option maxHeartbeats 4000000 in
set_option maxRecDepth 100000 in
theorem met_X8_output (l : Launch) (dC : Nat → ClassId) (dI : Nat → Nat → Nat) (cyI cyE : ClassId) (tC : Nat) (ad : Nat → Nat) (σ : SM) (x1 : Int32) (res : Int32 × SM) (hf : f_X8_output σ x1 = some res) : ax_Mi l dC dI cyI cyE tC 12 (cM cyI ad) ad yX8_output cX8_output 2 (some .int) rm_X8_output [.ref (ad 11), .int x1] σ res.1 res.2 := by
  intro sz
  refine Met.ofW (cc := cX8_output) (maxL := 2) (ret := (some .int)) (by decide) rfl ?_
  intro p e s m args below meth c s₁ B hml hv
  obtain ⟨hargs, hsz, hP, hJ, hE⟩ := hv
  subst hsz
  have hx := B.exec
  have hb := B.bytes
  have hr := B.returns
  have hlocks := B.notSynchronized
  have hts := atoms_spec (ws := wsY yX8_output cX8_output 2 (some .int)) B.pre
  have hown : s.vm.findClass RX8 = some m.cls := findClass_of_methodNamed B.named
  have C0 : CallFix p m c cX8_output 2 s args (wsY yX8_output cX8_output 2 (some .int)) RX8 := ⟨hx, hb, hml, hown, hts⟩
  have hT : ∀ w ∈ bw, w ∈ wsY yX8_output cX8_output 2 (some .int) := fun w h => List.mem_cons_of_mem _ h
  have hS : va_S (ax_A 12 ad s.heap.size) s.heap s.heap [] := va_S.rf
  rw [show entryFrame m args 2 = entryFrame m ([.ref (ad 11), .int x1] : List Value).toArray 2 by rw [hargs]]
  have hl := lv_entry ([.ref (ad 11), .int x1]) (n := 2) (Nat.le_of_ble_eq_true rfl)
  rw [lg_entry_eq]
  generalize (lg_sl ([.ref (ad 11), .int x1]) ++ List.replicate (2 - (lg_sl ([.ref (ad 11), .int x1])).length) Slot.unset).toArray = ls at hl ⊢
  have hl : lv_has ls 2 [(0, .ref (ad 11)), (1, .int x1)] := hl
  obtain ⟨Q, hQ⟩ : ∃ Q : State → Prop, Q = MQ below (va_Qi (fun (a : Int32) (u : SM) => a = res.1 ∧ u = res.2) (ax_B dC dI 12 (cM cyI ad) ad) (ax_A 12 ad s.heap.size)) args s 0 0 (ax_A 12 ad s.heap.size) := ⟨_, rfl⟩
  show W p l e rm_X8_output s m args below meth c s.heap [] 0 0 _ _
  rw [← hQ]
  have hret : ∀ (v : Int32) (σ : SM) (H : Heap) (locs : List Loc) (ls : Array Slot) (pc : Nat), narrow .int (.int v) = .int v → some (v, σ) = some res → va_P (dC, dI) vwCl (ax_w 12 ad (cM cyI ad σ)) H → va_S (ax_A 12 ad s.heap.size) s.heap H locs → decode cX8_output pc = .ok (.ireturn, 1) → W p l e rm_X8_output s m args below meth c H locs 0 0 Q (F0 m pc ls [.int v]) := by
    intro v σ H locs ls pc hn hf hP hS hd
    cases hf
    rw [hQ]
    exact ax_iret hx hb hr hlocks hn hP hS hd rfl rfl
  unfold f_X8_output at hf
  refine lv_aload_n hx hb dX8_output_0 rfl (lv_at hl 0 rfl) ?_
  refine lv_iconst (v := 0) hx hb dX8_output_1 (by decide) ?_
  refine p_Model_thrown C0 hT hE hJ hP hS mf_X8_50 dX8_output_2 (fun H locs hP hS => ?_)
  refine lv_iload_n hx hb dX8_output_5 rfl (lv_at hl 1 rfl) ?_
  refine lv_if_lt (tgt := 17) hx hb dX8_output_6 (by decide) (fun h6 => ?_) (fun h6 => ?_)
  · rw [if_pos h6] at hf
    refine lv_iconst (v := (-1)) hx hb dX8_output_17 (by decide) ?_
    refine lv_goto (tgt := 27) hx hb dX8_output_18 (by decide) ?_
    exact hret _ _ _ _ _ _ rfl hf hP hS dX8_output_27
  · rw [if_neg h6] at hf
    refine lv_iload_n hx hb dX8_output_9 rfl (lv_at hl 1 rfl) ?_
    refine lv_aload_n hx hb dX8_output_10 rfl (lv_at hl 0 rfl) ?_
    refine g_Model_outputSize C0 hT hE hP mf_X8_56 dX8_output_11 ?_
    refine lv_icmp_lt (tgt := 21) hx hb dX8_output_14 (by decide) (fun h14 => ?_) (fun h14 => ?_)
    · rw [if_pos h14] at hf
      refine lv_aload_n hx hb dX8_output_21 rfl (lv_at hl 0 rfl) ?_
      refine g_Model_output C0 hT hE hP mf_X8_16 dX8_output_22 ?_
      refine lv_iload_n hx hb dX8_output_25 rfl (lv_at hl 1 rfl) ?_
      obtain ⟨hin, hf⟩ := ob_if hf
      refine aM_ld (a := 2) (by decide) C0 hT hE hP (inb_in hin) dX8_output_26 ?_
      exact hret _ _ _ _ _ _ rfl hf hP hS dX8_output_27
    · rw [if_neg h14] at hf
      refine lv_iconst (v := (-1)) hx hb dX8_output_17 (by decide) ?_
      refine lv_goto (tgt := 27) hx hb dX8_output_18 (by decide) ?_
      exact hret _ _ _ _ _ _ rfl hf hP hS dX8_output_27
