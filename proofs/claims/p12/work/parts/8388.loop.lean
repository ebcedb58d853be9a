theorem CfS.up [DecidableEq Ob] {u : iST} {S : Sp.St} {n m : Int} (h : CfS u S n) (hm : n ≤ m) : CfS u S m := ⟨h.1, h.2.1, h.2.2.1, h.2.2.2.1, h.2.2.2.2.1, h.2.2.2.2.2.1, h.2.2.2.2.2.2.1, Int.le_trans h.2.2.2.2.2.2.2 hm⟩
theorem CfN.up [DecidableEq Ob] {u : iST} {S : Sp.St} {n m : Int} (h : CfN u S n) (hm : n ≤ m) : CfN u S m := ⟨h.1.up hm, h.2.1, h.2.2.1, by have := h.2.2.2; omega⟩
set_option maxHeartbeats 16000000 in
set_option maxRecDepth 100000 in
/-- the law from a call on -/
theorem law_at [DecidableEq Ob] {p : Program} {l : Launch} {e : Env} {s : State} {m : MethodId} {below : List Frame} {meth : Method} {c : Code} {cells slots b L : Nat} {xs : Nat → Int32} {D : va_G} {ca ca2 : Nat → ClassId} {A : Nat → Prop} {ad : Nat → Nat → Nat} {q2 : Nat} {ad2 : Nat → Nat} (F : CallFix p m c code 4 s #[Value.ref b] lw_tbl "ProofHouseLaw") (hr : meth.sig.returnType = ret) (hlocks : meth.locks = false) (hX : va_X b L xs s s.heap) (hbl : b < s.heap.size) (hbA : ¬ A b) (hAn : ∀ q, A q → s.heap.size ≤ q) (hc : cells ≤ 587887) (hs : slots ≤ 7338588) (hL : L ≤ 3072) : ∀ (n k : Nat), L - 6 * k < n → 6 * k ≤ L → ∀ (H : Heap) (locs : List Loc) (ls : Array Slot) (v w : iST) (S : Sp.St), HJ v → HI w (100 * (k : Int)) → v.1 43 = w.1 59 → v.1 42 = w.1 14 → CfN v S (44 + 30 * (k : Int)) → RfS w S → LWd D ca ad ca2 q2 ad2 A s H locs v w → lv_has ls 4 [(3, .int (nI (6 * k))), (2, .ref q2), (1, .ref (ad 0 9)), (0, .ref b)] → W p l e room_1 s m #[Value.ref b] below meth c H locs cells slots (lw_Z below #[Value.ref b] s) (F0 m 18 ls []) := by
  intro n
  induction n with
  | zero => intro k h; omega
  | succ n ih =>
    intro k hn hk H locs ls v w S hJ hI h59 h14 hC hR W0 hl
    have hx := F.1
    have hb := F.2.1
    have hlE : lv_has ls 4 [(3, .int (nI (6 * k))), (2, .ref q2), (1, .ref (ad 0 9)), (0, .ref b)] := hl
    refine lv_iload_n hx hb dL_law_18 rfl (lv_at hl 0 rfl) ?_
    refine lv_aload_n hx hb dL_law_19 rfl (lv_at hl 3 rfl) ?_
    refine va_slen hx hb hX hbl hbA W0.cS dL_law_20 ?_
    refine lv_bipush hx hb dL_law_21 (v := 6) rfl ?_
    refine lv_isub hx hb dL_law_23 ?_
    refine lv_icmp_gt hx hb dL_law_24 (tgt := 376) rfl (fun h => ?_) (fun h => ?_)
    · exact l_end hx hb hr hlocks (fun q hq => hAn _ (W0.cS.2.2 q hq)) hc hs
    have h6 : 6 * k + 6 ≤ L := l_gt hL hk h
    clear h
    have fin : ∀ (H : Heap) (locs : List Loc) (v w : iST) (S : Sp.St), HJ v → HI w (100 * ((k : Int) + 1)) → v.1 43 = w.1 59 → v.1 42 = w.1 14 → CfN v S (44 + 30 * ((k : Int) + 1)) → RfS w S → LWd D ca ad ca2 q2 ad2 A s H locs v w → W p l e room_1 s m #[Value.ref b] below meth c H locs cells slots (lw_Z below #[Value.ref b] s) (F0 m 370 ls []) := by
      intro H locs v w S hJ hI h59 h14 hC hR W0
      refine lv_iinc (v := nI (6 * k) + 6) hx hb dL_law_370 hl (k := 0) rfl rfl (by decide) rfl (fun ls hl => ?_)
      refine lv_goto hx hb dL_law_373 (tgt := 18) rfl ?_
      rw [show nI (6 * k) + 6 = nI (6 * (k + 1)) from nI_add (6 * k) 6] at hl
      have ek : ((k + 1 : Nat) : Int) = (k : Int) + 1 := by omega
      exact ih (k + 1) (by omega) (by omega) H locs ls v w S hJ (by rw [ek]; exact hI) h59 h14 (by rw [ek]; exact hC) hR W0 hl
    have e1 : nI (6 * k) + (1 : Int32) = nI (6 * k + 1) := nI_add (6 * k) 1
    obtain ⟨a1, ra1, x1⟩ : ∃ a, inR a ∧ xs (nI (6 * k + 1)).toNatClampNeg = jI a := ⟨_, inR_of _, (jI_of _).symm⟩
    have e2 : nI (6 * k) + (2 : Int32) = nI (6 * k + 2) := nI_add (6 * k) 2
    obtain ⟨a2, ra2, x2⟩ : ∃ a, inR a ∧ xs (nI (6 * k + 2)).toNatClampNeg = jI a := ⟨_, inR_of _, (jI_of _).symm⟩
    have e3 : nI (6 * k) + (3 : Int32) = nI (6 * k + 3) := nI_add (6 * k) 3
    obtain ⟨a3, ra3, x3⟩ : ∃ a, inR a ∧ xs (nI (6 * k + 3)).toNatClampNeg = jI a := ⟨_, inR_of _, (jI_of _).symm⟩
    have e4 : nI (6 * k) + (4 : Int32) = nI (6 * k + 4) := nI_add (6 * k) 4
    obtain ⟨a4, ra4, x4⟩ : ∃ a, inR a ∧ xs (nI (6 * k + 4)).toNatClampNeg = jI a := ⟨_, inR_of _, (jI_of _).symm⟩
    have e5 : nI (6 * k) + (5 : Int32) = nI (6 * k + 5) := nI_add (6 * k) 5
    obtain ⟨a5, ra5, x5⟩ : ∃ a, inR a ∧ xs (nI (6 * k + 5)).toNatClampNeg = jI a := ⟨_, inR_of _, (jI_of _).symm⟩
    refine lv_aload_n hx hb dL_law_27 rfl (lv_at hl 3 rfl) ?_
    refine lv_iload_n hx hb dL_law_28 rfl (lv_at hl 0 rfl) ?_
    refine va_sld hx hb hX hbl hbA W0.cS (vp_in_nI (show 6 * k < L by omega) (by omega)) dL_law_29 ?_
    refine lv_bipush hx hb dL_law_30 (v := 15) rfl ?_
    refine lv_iand hx hb dL_law_32 ?_
    refine lv_topi (fun x ex => ?_)
    by_cases k0 : x = 0
    · refine lv_tableIn (off := 63) (tgt := 96) hx hb dL_law_33 (by rw [k0]; decide) (by rw [k0]; decide) (by rw [k0]; rfl) rfl ?_
      refine lv_aload_n hx hb dL_law_96 rfl (lv_at hl 2 rfl) ?_
      refine lv_aload_n hx hb dL_law_97 rfl (lv_at hl 3 rfl) ?_
      refine lv_iload_n hx hb dL_law_98 rfl (lv_at hl 0 rfl) ?_
      refine lv_iconst hx hb dL_law_99 (v := 1) rfl ?_
      refine lv_iadd hx hb dL_law_100 ?_
      rw [e1]
      refine va_sld hx hb hX hbl hbA W0.cS (vp_in_nI (show 6 * k + 1 < L by omega) (by omega)) dL_law_101 ?_
      rw [x1]
      refine lv_aload_n hx hb dL_law_102 rfl (lv_at hl 3 rfl) ?_
      refine lv_iload_n hx hb dL_law_103 rfl (lv_at hl 0 rfl) ?_
      refine lv_iconst hx hb dL_law_104 (v := 2) rfl ?_
      refine lv_iadd hx hb dL_law_105 ?_
      rw [e2]
      refine va_sld hx hb hX hbl hbA W0.cS (vp_in_nI (show 6 * k + 2 < L by omega) (by omega)) dL_law_106 ?_
      rw [x2]
      refine lv_aload_n hx hb dL_law_107 rfl (lv_at hl 3 rfl) ?_
      refine lv_iload_n hx hb dL_law_108 rfl (lv_at hl 0 rfl) ?_
      refine lv_iconst hx hb dL_law_109 (v := 3) rfl ?_
      refine lv_iadd hx hb dL_law_110 ?_
      rw [e3]
      refine va_sld hx hb hX hbl hbA W0.cS (vp_in_nI (show 6 * k + 3 < L by omega) (by omega)) dL_law_111 ?_
      rw [x3]
      refine lv_aload_n hx hb dL_law_112 rfl (lv_at hl 3 rfl) ?_
      refine lv_iload_n hx hb dL_law_113 rfl (lv_at hl 0 rfl) ?_
      refine lv_iconst hx hb dL_law_114 (v := 4) rfl ?_
      refine lv_iadd hx hb dL_law_115 ?_
      rw [e4]
      refine va_sld hx hb hX hbl hbA W0.cS (vp_in_nI (show 6 * k + 4 < L by omega) (by omega)) dL_law_116 ?_
      rw [x4]
      refine lv_aload_n hx hb dL_law_117 rfl (lv_at hl 3 rfl) ?_
      refine lv_iload_n hx hb dL_law_118 rfl (lv_at hl 0 rfl) ?_
      refine lv_iconst hx hb dL_law_119 (v := 5) rfl ?_
      refine lv_iadd hx hb dL_law_120 ?_
      rw [e5]
      refine va_sld hx hb hX hbl hbA W0.cS (vp_in_nI (show 6 * k + 5 < L by omega) (by omega)) dL_law_121 ?_
      rw [x5]
      refine lcV (n := 5) (e_11_feed ra1 ra2 ra3 ra4 ra5 (Q := fun (v1 : iST) => (HJ v1 ∧ v1.1 43 = v.1 43 ∧ v1.1 42 = v.1 42) ∧ CfN v1 (S.1, S.2.1, S.2.2.1, Sp.feedW [a1, a2, a3, a4, a5], S.2.2.2.2) ((44 + 30 * (k : Int)) + 30)) (cj_v_11_feed (Q1 := fun (v1 : iST) => (HJ v1 ∧ v1.1 43 = v.1 43 ∧ v1.1 42 = v.1 42)) (Q2 := fun (v1 : iST) => CfN v1 (S.1, S.2.1, S.2.2.1, Sp.feedW [a1, a2, a3, a4, a5], S.2.2.2.2) ((44 + 30 * (k : Int)) + 30)) (fun _ p q => ⟨p, q⟩) (j_feed hJ (fun v1 h1 h2 h3 => ⟨h1, h2, h3⟩)) (pc_feedN hC (fun v1 h => h)))) rfl glc_X11_feed (by decide +kernel) F W0 (Nat.le_of_ble_eq_true rfl) (Nat.le_of_ble_eq_true rfl) hc hs rfl hl.1 (Nat.le_of_ble_eq_true rfl) rfl dL_law_122 (fun v1 H locs hKx W1 => ?_)
      refine lv_aload_n hx hb dL_law_125 rfl (lv_at hl 1 rfl) ?_
      refine lv_aload_n hx hb dL_law_126 rfl (lv_at hl 3 rfl) ?_
      refine lv_iload_n hx hb dL_law_127 rfl (lv_at hl 0 rfl) ?_
      refine lv_iconst hx hb dL_law_128 (v := 1) rfl ?_
      refine lv_iadd hx hb dL_law_129 ?_
      rw [e1]
      refine va_sld hx hb hX hbl hbA W1.cS (vp_in_nI (show 6 * k + 1 < L by omega) (by omega)) dL_law_130 ?_
      rw [x1]
      refine lv_aload_n hx hb dL_law_131 rfl (lv_at hl 3 rfl) ?_
      refine lv_iload_n hx hb dL_law_132 rfl (lv_at hl 0 rfl) ?_
      refine lv_iconst hx hb dL_law_133 (v := 2) rfl ?_
      refine lv_iadd hx hb dL_law_134 ?_
      rw [e2]
      refine va_sld hx hb hX hbl hbA W1.cS (vp_in_nI (show 6 * k + 2 < L by omega) (by omega)) dL_law_135 ?_
      rw [x2]
      refine lv_aload_n hx hb dL_law_136 rfl (lv_at hl 3 rfl) ?_
      refine lv_iload_n hx hb dL_law_137 rfl (lv_at hl 0 rfl) ?_
      refine lv_iconst hx hb dL_law_138 (v := 3) rfl ?_
      refine lv_iadd hx hb dL_law_139 ?_
      rw [e3]
      refine va_sld hx hb hX hbl hbA W1.cS (vp_in_nI (show 6 * k + 3 < L by omega) (by omega)) dL_law_140 ?_
      rw [x3]
      refine lv_aload_n hx hb dL_law_141 rfl (lv_at hl 3 rfl) ?_
      refine lv_iload_n hx hb dL_law_142 rfl (lv_at hl 0 rfl) ?_
      refine lv_iconst hx hb dL_law_143 (v := 4) rfl ?_
      refine lv_iadd hx hb dL_law_144 ?_
      rw [e4]
      refine va_sld hx hb hX hbl hbA W1.cS (vp_in_nI (show 6 * k + 4 < L by omega) (by omega)) dL_law_145 ?_
      rw [x4]
      refine lv_aload_n hx hb dL_law_146 rfl (lv_at hl 3 rfl) ?_
      refine lv_iload_n hx hb dL_law_147 rfl (lv_at hl 0 rfl) ?_
      refine lv_iconst hx hb dL_law_148 (v := 5) rfl ?_
      refine lv_iadd hx hb dL_law_149 ?_
      rw [e5]
      refine va_sld hx hb hX hbl hbA W1.cS (vp_in_nI (show 6 * k + 5 < L by omega) (by omega)) dL_law_150 ?_
      rw [x5]
      refine lmV (n := 5) (c_feed ra1 ra2 ra3 ra4 ra5 (Q := fun (w1 : iST) => (HI w1 (100 * (k : Int)) ∧ w1.1 59 = w.1 59 ∧ w1.1 14 = w.1 14) ∧ RfS w1 (S.1, S.2.1, S.2.2.1, Sp.feedW [a1, a2, a3, a4, a5], S.2.2.2.2)) (cj_w_feed (Q1 := fun (w1 : iST) => (HI w1 (100 * (k : Int)) ∧ w1.1 59 = w.1 59 ∧ w1.1 14 = w.1 14)) (Q2 := fun (w1 : iST) => RfS w1 (S.1, S.2.1, S.2.2.1, Sp.feedW [a1, a2, a3, a4, a5], S.2.2.2.2)) (fun _ p q => ⟨p, q⟩) (g_feed hI (fun w1 h1 h2 => ⟨h1, by rw [h2], by rw [h2]⟩)) (p_feedS hR (fun w1 h => h)))) glc_X12_feed (by decide +kernel) F W1 (Nat.le_of_ble_eq_true rfl) (Nat.le_of_ble_eq_true rfl) hc hs rfl hl.1 (Nat.le_of_ble_eq_true rfl) rfl dL_law_151 (fun w1 H locs hKw W2 => ?_)
      refine lv_goto hx hb dL_law_154 (tgt := 370) rfl ?_
      obtain ⟨⟨b1, b2, b3⟩, bC⟩ := hKx
      obtain ⟨⟨d1, d2, d3⟩, dR⟩ := hKw
      exact fin H locs v1 w1 _ b1 (d1.mono (by omega)) (by omega) (by omega) (bC.up (by omega)) dR W2
    by_cases k1 : x = 1
    · refine lv_tableIn (off := 124) (tgt := 157) hx hb dL_law_33 (by rw [k1]; decide) (by rw [k1]; decide) (by rw [k1]; rfl) rfl ?_
      refine lv_aload_n hx hb dL_law_157 rfl (lv_at hl 2 rfl) ?_
      refine lv_aload_n hx hb dL_law_158 rfl (lv_at hl 3 rfl) ?_
      refine lv_iload_n hx hb dL_law_159 rfl (lv_at hl 0 rfl) ?_
      refine lv_iconst hx hb dL_law_160 (v := 1) rfl ?_
      refine lv_iadd hx hb dL_law_161 ?_
      rw [e1]
      refine va_sld hx hb hX hbl hbA W0.cS (vp_in_nI (show 6 * k + 1 < L by omega) (by omega)) dL_law_162 ?_
      rw [x1]
      refine lcI (n := 1) (e_11_end ra1 (Q := fun (r : Int) (v1 : iST) => (HJ v1 ∧ v1.1 43 = v.1 43 ∧ (((0 ≤ a1 ∧ a1 ≤ 20 ∧ v.1 42 + a1 ≤ 3000) ∧ v1.1 42 = v.1 42 + a1 ∧ r = v.1 42 + a1) ∨ (¬ (0 ≤ a1 ∧ a1 ≤ 20 ∧ v.1 42 + a1 ≤ 3000) ∧ v1.1 42 = v.1 42 ∧ r = -1))) ∧ (r = Sp.endA S a1 ∧ CfN v1 (Sp.endS S a1) ((44 + 30 * (k : Int)) + 30))) (cj_v_11_end (Q1 := fun (r : Int) (v1 : iST) => (HJ v1 ∧ v1.1 43 = v.1 43 ∧ (((0 ≤ a1 ∧ a1 ≤ 20 ∧ v.1 42 + a1 ≤ 3000) ∧ v1.1 42 = v.1 42 + a1 ∧ r = v.1 42 + a1) ∨ (¬ (0 ≤ a1 ∧ a1 ≤ 20 ∧ v.1 42 + a1 ≤ 3000) ∧ v1.1 42 = v.1 42 ∧ r = -1)))) (Q2 := fun (r : Int) (v1 : iST) => (r = Sp.endA S a1 ∧ CfN v1 (Sp.endS S a1) ((44 + 30 * (k : Int)) + 30))) (fun _ _ p q => ⟨p, q⟩) (j_end hJ (fun g1 g2 g3 v1 h1 h2 h3 => ⟨h1, h2, Or.inl ⟨⟨g1, g2, g3⟩, h3, rfl⟩⟩) (fun g => ⟨hJ, rfl, Or.inr ⟨g, rfl, rfl⟩⟩)) (pc_endN hC (fun v1 h => ⟨rfl, h⟩)))) rfl glc_X11_end (by decide +kernel) F W0 (Nat.le_of_ble_eq_true rfl) (Nat.le_of_ble_eq_true rfl) hc hs rfl hl.1 (Nat.le_of_ble_eq_true rfl) rfl dL_law_163 (fun rx v1 H locs hrx hKx W1 => ?_)
      refine lv_pop hx hb dL_law_166 rfl ?_
      refine lv_aload_n hx hb dL_law_167 rfl (lv_at hl 1 rfl) ?_
      refine lv_aload_n hx hb dL_law_168 rfl (lv_at hl 3 rfl) ?_
      refine lv_iload_n hx hb dL_law_169 rfl (lv_at hl 0 rfl) ?_
      refine lv_iconst hx hb dL_law_170 (v := 1) rfl ?_
      refine lv_iadd hx hb dL_law_171 ?_
      rw [e1]
      refine va_sld hx hb hX hbl hbA W1.cS (vp_in_nI (show 6 * k + 1 < L by omega) (by omega)) dL_law_172 ?_
      rw [x1]
      refine lmI (n := 1) (c_end ra1 (Q := fun (r : Int) (w1 : iST) => (HI w1 (100 * ((k : Int) + 1)) ∧ w1.1 59 = w.1 59 ∧ (((0 ≤ a1 ∧ a1 ≤ 20 ∧ w.1 14 + a1 ≤ 3000) ∧ w1.1 14 = w.1 14 + a1 ∧ r = w.1 14 + a1) ∨ (¬ (0 ≤ a1 ∧ a1 ≤ 20 ∧ w.1 14 + a1 ≤ 3000) ∧ w1.1 14 = w.1 14 ∧ r = -1))) ∧ (r = Sp.endA S a1 ∧ RfS w1 (Sp.endS S a1))) (cj_w_end (Q1 := fun (r : Int) (w1 : iST) => (HI w1 (100 * ((k : Int) + 1)) ∧ w1.1 59 = w.1 59 ∧ (((0 ≤ a1 ∧ a1 ≤ 20 ∧ w.1 14 + a1 ≤ 3000) ∧ w1.1 14 = w.1 14 + a1 ∧ r = w.1 14 + a1) ∨ (¬ (0 ≤ a1 ∧ a1 ≤ 20 ∧ w.1 14 + a1 ≤ 3000) ∧ w1.1 14 = w.1 14 ∧ r = -1)))) (Q2 := fun (r : Int) (w1 : iST) => (r = Sp.endA S a1 ∧ RfS w1 (Sp.endS S a1))) (fun _ _ p q => ⟨p, q⟩) (g_end hI (fun g => ⟨hI.mono (by omega), rfl, Or.inr ⟨by omega, rfl, rfl⟩⟩) (fun w1 g1 g2 g3 h1 h2 h3 => ⟨h1.mono (by omega), h3, Or.inl ⟨⟨g1, g2, g3⟩, h2, h2⟩⟩)) (p_endS hR (fun w1 h => ⟨rfl, h⟩)))) glc_X12_end (by decide +kernel) F W1 (Nat.le_of_ble_eq_true rfl) (Nat.le_of_ble_eq_true rfl) hc hs rfl hl.1 (Nat.le_of_ble_eq_true rfl) rfl dL_law_173 (fun rm w1 H locs hrm hKw W2 => ?_)
      refine lv_pop hx hb dL_law_176 rfl ?_
      refine lv_goto hx hb dL_law_177 (tgt := 370) rfl ?_
      obtain ⟨⟨b1, b2, b3⟩, bC⟩ := hKx
      obtain ⟨⟨d1, d2, d3⟩, dR⟩ := hKw
      exact fin H locs v1 w1 _ b1 d1 (by omega) (by rcases b3 with ⟨g1, g2, -⟩ | ⟨g1, g2, -⟩ <;> rcases d3 with ⟨g3, g4, -⟩ | ⟨g3, g4, -⟩ <;> omega) (bC.2.up (by omega)) dR.2 W2
    by_cases k2 : x = 2
    · refine lv_tableIn (off := 147) (tgt := 180) hx hb dL_law_33 (by rw [k2]; decide) (by rw [k2]; decide) (by rw [k2]; rfl) rfl ?_
      refine lv_aload_n hx hb dL_law_180 rfl (lv_at hl 2 rfl) ?_
      refine lv_aload_n hx hb dL_law_181 rfl (lv_at hl 3 rfl) ?_
      refine lv_iload_n hx hb dL_law_182 rfl (lv_at hl 0 rfl) ?_
      refine lv_iconst hx hb dL_law_183 (v := 1) rfl ?_
      refine lv_iadd hx hb dL_law_184 ?_
      rw [e1]
      refine va_sld hx hb hX hbl hbA W0.cS (vp_in_nI (show 6 * k + 1 < L by omega) (by omega)) dL_law_185 ?_
      rw [x1]
      refine lcI (n := 1) (e_11_fuel ra1 (Q := fun (r : Int) (v1 : iST) => (HJ v1 ∧ v1.1 42 = v.1 42 ∧ (((1 ≤ a1 ∧ a1 ≤ 1000) ∧ v1.1 43 = a1 ∧ r = v.1 43) ∨ (¬ (1 ≤ a1 ∧ a1 ≤ 1000) ∧ v1.1 43 = v.1 43 ∧ r = -1))) ∧ (r = Sp.fuelA S a1 ∧ CfN v1 (Sp.fuelS S a1) (44 + 30 * (k : Int)))) (cj_v_11_fuel (Q1 := fun (r : Int) (v1 : iST) => (HJ v1 ∧ v1.1 42 = v.1 42 ∧ (((1 ≤ a1 ∧ a1 ≤ 1000) ∧ v1.1 43 = a1 ∧ r = v.1 43) ∨ (¬ (1 ≤ a1 ∧ a1 ≤ 1000) ∧ v1.1 43 = v.1 43 ∧ r = -1)))) (Q2 := fun (r : Int) (v1 : iST) => (r = Sp.fuelA S a1 ∧ CfN v1 (Sp.fuelS S a1) (44 + 30 * (k : Int)))) (fun _ _ p q => ⟨p, q⟩) (j_fuel hJ (fun g1 g2 v1 h1 h2 h3 => ⟨h1, h3, Or.inl ⟨⟨g1, g2⟩, h2, rfl⟩⟩) (fun g => ⟨hJ, rfl, Or.inr ⟨g, rfl, rfl⟩⟩)) (pc_fuelN hC (fun v1 h => ⟨rfl, h⟩)))) rfl glc_X11_fuel (by decide +kernel) F W0 (Nat.le_of_ble_eq_true rfl) (Nat.le_of_ble_eq_true rfl) hc hs rfl hl.1 (Nat.le_of_ble_eq_true rfl) rfl dL_law_186 (fun rx v1 H locs hrx hKx W1 => ?_)
      refine lv_pop hx hb dL_law_189 rfl ?_
      refine lv_aload_n hx hb dL_law_190 rfl (lv_at hl 1 rfl) ?_
      refine lv_aload_n hx hb dL_law_191 rfl (lv_at hl 3 rfl) ?_
      refine lv_iload_n hx hb dL_law_192 rfl (lv_at hl 0 rfl) ?_
      refine lv_iconst hx hb dL_law_193 (v := 1) rfl ?_
      refine lv_iadd hx hb dL_law_194 ?_
      rw [e1]
      refine va_sld hx hb hX hbl hbA W1.cS (vp_in_nI (show 6 * k + 1 < L by omega) (by omega)) dL_law_195 ?_
      rw [x1]
      refine lmI (n := 1) (c_fuel ra1 (Q := fun (r : Int) (w1 : iST) => (HI w1 (100 * (k : Int)) ∧ w1.1 14 = w.1 14 ∧ (((1 ≤ a1 ∧ a1 ≤ 1000) ∧ w1.1 59 = a1 ∧ r = w.1 59) ∨ (¬ (1 ≤ a1 ∧ a1 ≤ 1000) ∧ w1.1 59 = w.1 59 ∧ r = -1))) ∧ (r = Sp.fuelA S a1 ∧ RfS w1 (Sp.fuelS S a1))) (cj_w_fuel (Q1 := fun (r : Int) (w1 : iST) => (HI w1 (100 * (k : Int)) ∧ w1.1 14 = w.1 14 ∧ (((1 ≤ a1 ∧ a1 ≤ 1000) ∧ w1.1 59 = a1 ∧ r = w.1 59) ∨ (¬ (1 ≤ a1 ∧ a1 ≤ 1000) ∧ w1.1 59 = w.1 59 ∧ r = -1)))) (Q2 := fun (r : Int) (w1 : iST) => (r = Sp.fuelA S a1 ∧ RfS w1 (Sp.fuelS S a1))) (fun _ _ p q => ⟨p, q⟩) (g_fuel hI (fun g => ⟨hI, rfl, Or.inr ⟨by omega, rfl, rfl⟩⟩) (fun w1 g1 g2 h1 h2 h3 => ⟨h1, h3, Or.inl ⟨⟨g1, g2⟩, h2, rfl⟩⟩)) (p_fuelS hR (fun w1 h => ⟨rfl, h⟩)))) glc_X12_fuel (by decide +kernel) F W1 (Nat.le_of_ble_eq_true rfl) (Nat.le_of_ble_eq_true rfl) hc hs rfl hl.1 (Nat.le_of_ble_eq_true rfl) rfl dL_law_196 (fun rm w1 H locs hrm hKw W2 => ?_)
      refine lv_pop hx hb dL_law_199 rfl ?_
      refine lv_goto hx hb dL_law_200 (tgt := 370) rfl ?_
      obtain ⟨⟨b1, b2, b3⟩, bC⟩ := hKx
      obtain ⟨⟨d1, d2, d3⟩, dR⟩ := hKw
      exact fin H locs v1 w1 _ b1 (d1.mono (by omega)) (by rcases b3 with ⟨g1, g2, -⟩ | ⟨g1, g2, -⟩ <;> rcases d3 with ⟨g3, g4, -⟩ | ⟨g3, g4, -⟩ <;> omega) (by omega) (bC.2.up (by omega)) dR.2 W2
    by_cases k3 : x = 3
    · refine lv_tableIn (off := 170) (tgt := 203) hx hb dL_law_33 (by rw [k3]; decide) (by rw [k3]; decide) (by rw [k3]; rfl) rfl ?_
      refine lv_aload_n hx hb dL_law_203 rfl (lv_at hl 2 rfl) ?_
      refine lcI (n := 0) (e_11_run  (Q := fun (r : Int) (v1 : iST) => (HJ v1 ∧ v1.1 43 = v.1 43 ∧ v1.1 42 = 0) ∧ (∃ o, Sp.RanT0 S.1 S.2.1 S.2.2.1 o ∧ CfN v1 (Sp.runS S o) (44 + 30 * (k : Int)))) (cj_v_11_run (Q1 := fun (r : Int) (v1 : iST) => (HJ v1 ∧ v1.1 43 = v.1 43 ∧ v1.1 42 = 0)) (Q2 := fun (r : Int) (v1 : iST) => (∃ o, Sp.RanT0 S.1 S.2.1 S.2.2.1 o ∧ CfN v1 (Sp.runS S o) (44 + 30 * (k : Int)))) (fun _ _ p q => ⟨p, q⟩) (j_run hJ (fun r v1 h1 h2 h3 => ⟨h1, h2, h3⟩)) (pc_runN (by omega) hC (fun ans v1 o ho h => ⟨o, ho, h⟩)))) rfl glc_X11_run (by decide +kernel) F W0 (Nat.le_of_ble_eq_true rfl) (Nat.le_of_ble_eq_true rfl) hc hs rfl hl.1 (Nat.le_of_ble_eq_true rfl) rfl dL_law_204 (fun rx v1 H locs hrx hKx W1 => ?_)
      refine lv_pop hx hb dL_law_207 rfl ?_
      refine lv_aload_n hx hb dL_law_208 rfl (lv_at hl 1 rfl) ?_
      refine lmI (n := 0) (c_run  (Q := fun (r : Int) (w1 : iST) => (HI w1 (100 * (k : Int)) ∧ w1.1 59 = w.1 59 ∧ w1.1 14 = 0) ∧ (∃ o, Sp.RanT0 S.1 S.2.1 S.2.2.1 o ∧ (w1.1 14 = 0 → RfS w1 (Sp.runS S o)))) (cj_w_run (Q1 := fun (r : Int) (w1 : iST) => (HI w1 (100 * (k : Int)) ∧ w1.1 59 = w.1 59 ∧ w1.1 14 = 0)) (Q2 := fun (r : Int) (w1 : iST) => (∃ o, Sp.RanT0 S.1 S.2.1 S.2.2.1 o ∧ (w1.1 14 = 0 → RfS w1 (Sp.runS S o)))) (fun _ _ p q => ⟨p, q⟩) (g_run g_check hI (by omega) (fun r w1 h1 h2 h3 => ⟨h1, h2, h3⟩)) (p_runS hI (by omega) hR (fun ans w1 o ho h => ⟨o, ho, h⟩)))) glc_X12_run (by decide +kernel) F W1 (Nat.le_of_ble_eq_true rfl) (Nat.le_of_ble_eq_true rfl) hc hs rfl hl.1 (Nat.le_of_ble_eq_true rfl) rfl dL_law_209 (fun rm w1 H locs hrm hKw W2 => ?_)
      refine lv_pop hx hb dL_law_212 rfl ?_
      refine lv_goto hx hb dL_law_213 (tgt := 370) rfl ?_
      obtain ⟨⟨b1, b2, b3⟩, bC⟩ := hKx
      obtain ⟨⟨d1, d2, d3⟩, dR⟩ := hKw
      obtain ⟨o1, p1, bC⟩ := bC
      obtain ⟨o2, p2, dR⟩ := dR
      have eo : o2 = o1 := RanT0_det _ _ p2 p1
      rw [eo] at dR
      exact fin H locs v1 w1 _ b1 (d1.mono (by omega)) (by omega) (by omega) (bC.up (by omega)) (dR d3) W2
    by_cases k4 : x = 4
    · refine lv_tableIn (off := 183) (tgt := 216) hx hb dL_law_33 (by rw [k4]; decide) (by rw [k4]; decide) (by rw [k4]; rfl) rfl ?_
      refine lv_aload_n hx hb dL_law_216 rfl (lv_at hl 2 rfl) ?_
      refine lv_aload_n hx hb dL_law_217 rfl (lv_at hl 3 rfl) ?_
      refine lv_iload_n hx hb dL_law_218 rfl (lv_at hl 0 rfl) ?_
      refine lv_iconst hx hb dL_law_219 (v := 1) rfl ?_
      refine lv_iadd hx hb dL_law_220 ?_
      rw [e1]
      refine va_sld hx hb hX hbl hbA W0.cS (vp_in_nI (show 6 * k + 1 < L by omega) (by omega)) dL_law_221 ?_
      rw [x1]
      refine lcI (n := 1) (e_11_fault ra1 (Q := fun (r : Int) (v1 : iST) => (HJ v1 ∧ v1.1 43 = v.1 43 ∧ v1.1 42 = v.1 42) ∧ CfN v1 S (44 + 30 * (k : Int))) (j_fault (fun r => ⟨⟨hJ, rfl, rfl⟩, hC⟩))) rfl glc_X11_fault (by decide +kernel) F W0 (Nat.le_of_ble_eq_true rfl) (Nat.le_of_ble_eq_true rfl) hc hs rfl hl.1 (Nat.le_of_ble_eq_true rfl) rfl dL_law_222 (fun rx v1 H locs hrx hKx W1 => ?_)
      refine lv_pop hx hb dL_law_225 rfl ?_
      refine lv_aload_n hx hb dL_law_226 rfl (lv_at hl 1 rfl) ?_
      refine lv_aload_n hx hb dL_law_227 rfl (lv_at hl 3 rfl) ?_
      refine lv_iload_n hx hb dL_law_228 rfl (lv_at hl 0 rfl) ?_
      refine lv_iconst hx hb dL_law_229 (v := 1) rfl ?_
      refine lv_iadd hx hb dL_law_230 ?_
      rw [e1]
      refine va_sld hx hb hX hbl hbA W1.cS (vp_in_nI (show 6 * k + 1 < L by omega) (by omega)) dL_law_231 ?_
      rw [x1]
      refine lmI (n := 1) (c_fault ra1 (Q := fun (r : Int) (w1 : iST) => (HI w1 (100 * (k : Int)) ∧ w1.1 59 = w.1 59 ∧ w1.1 14 = w.1 14) ∧ RfS w1 S) (g_fault (fun r => ⟨⟨hI, rfl, rfl⟩, hR⟩))) glc_X12_fault (by decide +kernel) F W1 (Nat.le_of_ble_eq_true rfl) (Nat.le_of_ble_eq_true rfl) hc hs rfl hl.1 (Nat.le_of_ble_eq_true rfl) rfl dL_law_232 (fun rm w1 H locs hrm hKw W2 => ?_)
      refine lv_pop hx hb dL_law_235 rfl ?_
      refine lv_goto hx hb dL_law_236 (tgt := 370) rfl ?_
      obtain ⟨⟨b1, b2, b3⟩, bC⟩ := hKx
      obtain ⟨⟨d1, d2, d3⟩, dR⟩ := hKw
      exact fin H locs v1 w1 _ b1 (d1.mono (by omega)) (by omega) (by omega) (bC.up (by omega)) dR W2
    by_cases k5 : x = 5
    · refine lv_tableIn (off := 206) (tgt := 239) hx hb dL_law_33 (by rw [k5]; decide) (by rw [k5]; decide) (by rw [k5]; rfl) rfl ?_
      refine lv_aload_n hx hb dL_law_239 rfl (lv_at hl 2 rfl) ?_
      refine lcI (n := 0) (e_11_steps  (Q := fun (r : Int) (v1 : iST) => (HJ v1 ∧ v1.1 43 = v.1 43 ∧ v1.1 42 = v.1 42) ∧ (r = S.2.2.2.2.1 ∧ CfN v1 S (44 + 30 * (k : Int)))) (cj_v_11_steps (Q1 := fun (r : Int) (v1 : iST) => (HJ v1 ∧ v1.1 43 = v.1 43 ∧ v1.1 42 = v.1 42)) (Q2 := fun (r : Int) (v1 : iST) => (r = S.2.2.2.2.1 ∧ CfN v1 S (44 + 30 * (k : Int)))) (fun _ _ p q => ⟨p, q⟩) (j_steps (fun r => ⟨hJ, rfl, rfl⟩)) (pc_stepsS hC.1 ⟨rfl, hC⟩))) rfl glc_X11_steps (by decide +kernel) F W0 (Nat.le_of_ble_eq_true rfl) (Nat.le_of_ble_eq_true rfl) hc hs rfl hl.1 (Nat.le_of_ble_eq_true rfl) rfl dL_law_240 (fun rx v1 H locs hrx hKx W1 => ?_)
      refine lv_pop hx hb dL_law_243 rfl ?_
      refine lv_aload_n hx hb dL_law_244 rfl (lv_at hl 1 rfl) ?_
      refine lmI (n := 0) (c_steps  (Q := fun (r : Int) (w1 : iST) => (HI w1 (100 * (k : Int)) ∧ w1.1 59 = w.1 59 ∧ w1.1 14 = w.1 14) ∧ (r = S.2.2.2.2.1 ∧ RfS w1 S)) (cj_w_steps (Q1 := fun (r : Int) (w1 : iST) => (HI w1 (100 * (k : Int)) ∧ w1.1 59 = w.1 59 ∧ w1.1 14 = w.1 14)) (Q2 := fun (r : Int) (w1 : iST) => (r = S.2.2.2.2.1 ∧ RfS w1 S)) (fun _ _ p q => ⟨p, q⟩) (g_steps (fun r => ⟨hI, rfl, rfl⟩)) (p_stepsS hR ⟨rfl, hR⟩))) glc_X12_steps (by decide +kernel) F W1 (Nat.le_of_ble_eq_true rfl) (Nat.le_of_ble_eq_true rfl) hc hs rfl hl.1 (Nat.le_of_ble_eq_true rfl) rfl dL_law_245 (fun rm w1 H locs hrm hKw W2 => ?_)
      refine lv_pop hx hb dL_law_248 rfl ?_
      refine lv_goto hx hb dL_law_249 (tgt := 370) rfl ?_
      obtain ⟨⟨b1, b2, b3⟩, bC⟩ := hKx
      obtain ⟨⟨d1, d2, d3⟩, dR⟩ := hKw
      exact fin H locs v1 w1 S b1 (d1.mono (by omega)) (by omega) (by omega) (bC.2.up (by omega)) dR.2 W2
    by_cases k6 : x = 6
    · refine lv_tableIn (off := 219) (tgt := 252) hx hb dL_law_33 (by rw [k6]; decide) (by rw [k6]; decide) (by rw [k6]; rfl) rfl ?_
      refine lv_aload_n hx hb dL_law_252 rfl (lv_at hl 2 rfl) ?_
      refine lv_aload_n hx hb dL_law_253 rfl (lv_at hl 3 rfl) ?_
      refine lv_iload_n hx hb dL_law_254 rfl (lv_at hl 0 rfl) ?_
      refine lv_iconst hx hb dL_law_255 (v := 1) rfl ?_
      refine lv_iadd hx hb dL_law_256 ?_
      rw [e1]
      refine va_sld hx hb hX hbl hbA W0.cS (vp_in_nI (show 6 * k + 1 < L by omega) (by omega)) dL_law_257 ?_
      rw [x1]
      refine lcI (n := 1) (e_11_count ra1 (Q := fun (r : Int) (v1 : iST) => (HJ v1 ∧ v1.1 43 = v.1 43 ∧ v1.1 42 = v.1 42) ∧ (r = Sp.countC S a1 ∧ CfN v1 S (44 + 30 * (k : Int)))) (cj_v_11_count (Q1 := fun (r : Int) (v1 : iST) => (HJ v1 ∧ v1.1 43 = v.1 43 ∧ v1.1 42 = v.1 42)) (Q2 := fun (r : Int) (v1 : iST) => (r = Sp.countC S a1 ∧ CfN v1 S (44 + 30 * (k : Int)))) (fun _ _ p q => ⟨p, q⟩) (j_count hJ (fun r => ⟨hJ, rfl, rfl⟩)) (pc_countN hC ⟨rfl, hC⟩))) rfl glc_X11_count (by decide +kernel) F W0 (Nat.le_of_ble_eq_true rfl) (Nat.le_of_ble_eq_true rfl) hc hs rfl hl.1 (Nat.le_of_ble_eq_true rfl) rfl dL_law_258 (fun rx v1 H locs hrx hKx W1 => ?_)
      refine lv_pop hx hb dL_law_261 rfl ?_
      refine lv_aload_n hx hb dL_law_262 rfl (lv_at hl 1 rfl) ?_
      refine lv_aload_n hx hb dL_law_263 rfl (lv_at hl 3 rfl) ?_
      refine lv_iload_n hx hb dL_law_264 rfl (lv_at hl 0 rfl) ?_
      refine lv_iconst hx hb dL_law_265 (v := 1) rfl ?_
      refine lv_iadd hx hb dL_law_266 ?_
      rw [e1]
      refine va_sld hx hb hX hbl hbA W1.cS (vp_in_nI (show 6 * k + 1 < L by omega) (by omega)) dL_law_267 ?_
      rw [x1]
      refine lmI (n := 1) (c_count ra1 (Q := fun (r : Int) (w1 : iST) => (HI w1 (100 * (k : Int)) ∧ w1.1 59 = w.1 59 ∧ w1.1 14 = w.1 14) ∧ (r = Sp.countC S a1 ∧ RfS w1 S)) (cj_w_count (Q1 := fun (r : Int) (w1 : iST) => (HI w1 (100 * (k : Int)) ∧ w1.1 59 = w.1 59 ∧ w1.1 14 = w.1 14)) (Q2 := fun (r : Int) (w1 : iST) => (r = Sp.countC S a1 ∧ RfS w1 S)) (fun _ _ p q => ⟨p, q⟩) (g_count hI.2.1 (fun r => ⟨hI, rfl, rfl⟩)) (p_countS hR ⟨rfl, hR⟩))) glc_X12_count (by decide +kernel) F W1 (Nat.le_of_ble_eq_true rfl) (Nat.le_of_ble_eq_true rfl) hc hs rfl hl.1 (Nat.le_of_ble_eq_true rfl) rfl dL_law_268 (fun rm w1 H locs hrm hKw W2 => ?_)
      refine lv_pop hx hb dL_law_271 rfl ?_
      refine lv_goto hx hb dL_law_272 (tgt := 370) rfl ?_
      obtain ⟨⟨b1, b2, b3⟩, bC⟩ := hKx
      obtain ⟨⟨d1, d2, d3⟩, dR⟩ := hKw
      exact fin H locs v1 w1 S b1 (d1.mono (by omega)) (by omega) (by omega) (bC.2.up (by omega)) dR.2 W2
    by_cases k7 : x = 7
    · refine lv_tableIn (off := 242) (tgt := 275) hx hb dL_law_33 (by rw [k7]; decide) (by rw [k7]; decide) (by rw [k7]; rfl) rfl ?_
      refine lv_aload_n hx hb dL_law_275 rfl (lv_at hl 2 rfl) ?_
      refine lcI (n := 0) (e_11_size  (Q := fun (r : Int) (v1 : iST) => (HJ v1 ∧ v1.1 43 = v.1 43 ∧ v1.1 42 = v.1 42) ∧ CfN v1 S (44 + 30 * (k : Int))) (j_size (fun r => ⟨⟨hJ, rfl, rfl⟩, hC⟩))) rfl glc_X11_size (by decide +kernel) F W0 (Nat.le_of_ble_eq_true rfl) (Nat.le_of_ble_eq_true rfl) hc hs rfl hl.1 (Nat.le_of_ble_eq_true rfl) rfl dL_law_276 (fun rx v1 H locs hrx hKx W1 => ?_)
      refine lv_pop hx hb dL_law_279 rfl ?_
      refine lv_aload_n hx hb dL_law_280 rfl (lv_at hl 1 rfl) ?_
      refine lmI (n := 0) (c_size  (Q := fun (r : Int) (w1 : iST) => (HI w1 (100 * (k : Int)) ∧ w1.1 59 = w.1 59 ∧ w1.1 14 = w.1 14) ∧ RfS w1 S) (g_size (fun r => ⟨⟨hI, rfl, rfl⟩, hR⟩))) glc_X12_size (by decide +kernel) F W1 (Nat.le_of_ble_eq_true rfl) (Nat.le_of_ble_eq_true rfl) hc hs rfl hl.1 (Nat.le_of_ble_eq_true rfl) rfl dL_law_281 (fun rm w1 H locs hrm hKw W2 => ?_)
      refine lv_pop hx hb dL_law_284 rfl ?_
      refine lv_goto hx hb dL_law_285 (tgt := 370) rfl ?_
      obtain ⟨⟨b1, b2, b3⟩, bC⟩ := hKx
      obtain ⟨⟨d1, d2, d3⟩, dR⟩ := hKw
      exact fin H locs v1 w1 _ b1 (d1.mono (by omega)) (by omega) (by omega) (bC.up (by omega)) dR W2
    by_cases k8 : x = 8
    · refine lv_tableIn (off := 255) (tgt := 288) hx hb dL_law_33 (by rw [k8]; decide) (by rw [k8]; decide) (by rw [k8]; rfl) rfl ?_
      refine lv_aload_n hx hb dL_law_288 rfl (lv_at hl 2 rfl) ?_
      refine lv_aload_n hx hb dL_law_289 rfl (lv_at hl 3 rfl) ?_
      refine lv_iload_n hx hb dL_law_290 rfl (lv_at hl 0 rfl) ?_
      refine lv_iconst hx hb dL_law_291 (v := 1) rfl ?_
      refine lv_iadd hx hb dL_law_292 ?_
      rw [e1]
      refine va_sld hx hb hX hbl hbA W0.cS (vp_in_nI (show 6 * k + 1 < L by omega) (by omega)) dL_law_293 ?_
      rw [x1]
      refine lcI (n := 1) (e_11_letter ra1 (Q := fun (r : Int) (v1 : iST) => (HJ v1 ∧ v1.1 43 = v.1 43 ∧ v1.1 42 = v.1 42) ∧ CfN v1 S (44 + 30 * (k : Int))) (j_letter hJ (fun r => ⟨⟨hJ, rfl, rfl⟩, hC⟩))) rfl glc_X11_letter (by decide +kernel) F W0 (Nat.le_of_ble_eq_true rfl) (Nat.le_of_ble_eq_true rfl) hc hs rfl hl.1 (Nat.le_of_ble_eq_true rfl) rfl dL_law_294 (fun rx v1 H locs hrx hKx W1 => ?_)
      refine lv_pop hx hb dL_law_297 rfl ?_
      refine lv_aload_n hx hb dL_law_298 rfl (lv_at hl 1 rfl) ?_
      refine lv_aload_n hx hb dL_law_299 rfl (lv_at hl 3 rfl) ?_
      refine lv_iload_n hx hb dL_law_300 rfl (lv_at hl 0 rfl) ?_
      refine lv_iconst hx hb dL_law_301 (v := 1) rfl ?_
      refine lv_iadd hx hb dL_law_302 ?_
      rw [e1]
      refine va_sld hx hb hX hbl hbA W1.cS (vp_in_nI (show 6 * k + 1 < L by omega) (by omega)) dL_law_303 ?_
      rw [x1]
      refine lmI (n := 1) (c_letter ra1 (Q := fun (r : Int) (w1 : iST) => (HI w1 (100 * (k : Int)) ∧ w1.1 59 = w.1 59 ∧ w1.1 14 = w.1 14) ∧ RfS w1 S) (g_letter hI.2.2.2.2.1 (fun r => ⟨⟨hI, rfl, rfl⟩, hR⟩))) glc_X12_letter (by decide +kernel) F W1 (Nat.le_of_ble_eq_true rfl) (Nat.le_of_ble_eq_true rfl) hc hs rfl hl.1 (Nat.le_of_ble_eq_true rfl) rfl dL_law_304 (fun rm w1 H locs hrm hKw W2 => ?_)
      refine lv_pop hx hb dL_law_307 rfl ?_
      refine lv_goto hx hb dL_law_308 (tgt := 370) rfl ?_
      obtain ⟨⟨b1, b2, b3⟩, bC⟩ := hKx
      obtain ⟨⟨d1, d2, d3⟩, dR⟩ := hKw
      exact fin H locs v1 w1 _ b1 (d1.mono (by omega)) (by omega) (by omega) (bC.up (by omega)) dR W2
    by_cases k9 : x = 9
    · refine lv_tableIn (off := 278) (tgt := 311) hx hb dL_law_33 (by rw [k9]; decide) (by rw [k9]; decide) (by rw [k9]; rfl) rfl ?_
      refine lv_aload_n hx hb dL_law_311 rfl (lv_at hl 2 rfl) ?_
      refine lv_aload_n hx hb dL_law_312 rfl (lv_at hl 3 rfl) ?_
      refine lv_iload_n hx hb dL_law_313 rfl (lv_at hl 0 rfl) ?_
      refine lv_iconst hx hb dL_law_314 (v := 1) rfl ?_
      refine lv_iadd hx hb dL_law_315 ?_
      rw [e1]
      refine va_sld hx hb hX hbl hbA W0.cS (vp_in_nI (show 6 * k + 1 < L by omega) (by omega)) dL_law_316 ?_
      rw [x1]
      refine lcI (n := 1) (e_11_taken ra1 (Q := fun (r : Int) (v1 : iST) => (HJ v1 ∧ v1.1 43 = v.1 43 ∧ v1.1 42 = v.1 42) ∧ (r = Sp.takenC S.1 a1 ∧ CfN v1 S (44 + 30 * (k : Int)))) (cj_v_11_taken (Q1 := fun (r : Int) (v1 : iST) => (HJ v1 ∧ v1.1 43 = v.1 43 ∧ v1.1 42 = v.1 42)) (Q2 := fun (r : Int) (v1 : iST) => (r = Sp.takenC S.1 a1 ∧ CfN v1 S (44 + 30 * (k : Int)))) (fun _ _ p q => ⟨p, q⟩) (j_taken hJ (fun r => ⟨hJ, rfl, rfl⟩)) (pc_takenS hC.1 ⟨rfl, hC⟩))) rfl glc_X11_taken (by decide +kernel) F W0 (Nat.le_of_ble_eq_true rfl) (Nat.le_of_ble_eq_true rfl) hc hs rfl hl.1 (Nat.le_of_ble_eq_true rfl) rfl dL_law_317 (fun rx v1 H locs hrx hKx W1 => ?_)
      refine lv_pop hx hb dL_law_320 rfl ?_
      refine lv_aload_n hx hb dL_law_321 rfl (lv_at hl 1 rfl) ?_
      refine lv_aload_n hx hb dL_law_322 rfl (lv_at hl 3 rfl) ?_
      refine lv_iload_n hx hb dL_law_323 rfl (lv_at hl 0 rfl) ?_
      refine lv_iconst hx hb dL_law_324 (v := 1) rfl ?_
      refine lv_iadd hx hb dL_law_325 ?_
      rw [e1]
      refine va_sld hx hb hX hbl hbA W1.cS (vp_in_nI (show 6 * k + 1 < L by omega) (by omega)) dL_law_326 ?_
      rw [x1]
      refine lmI (n := 1) (c_taken ra1 (Q := fun (r : Int) (w1 : iST) => (HI w1 (100 * (k : Int)) ∧ w1.1 59 = w.1 59 ∧ w1.1 14 = w.1 14) ∧ (r = Sp.takenC S.1 a1 ∧ RfS w1 S)) (cj_w_taken (Q1 := fun (r : Int) (w1 : iST) => (HI w1 (100 * (k : Int)) ∧ w1.1 59 = w.1 59 ∧ w1.1 14 = w.1 14)) (Q2 := fun (r : Int) (w1 : iST) => (r = Sp.takenC S.1 a1 ∧ RfS w1 S)) (fun _ _ p q => ⟨p, q⟩) (g_taken hI (fun r => ⟨hI, rfl, rfl⟩)) (p_takenS hR ⟨rfl, hR⟩))) glc_X12_taken (by decide +kernel) F W1 (Nat.le_of_ble_eq_true rfl) (Nat.le_of_ble_eq_true rfl) hc hs rfl hl.1 (Nat.le_of_ble_eq_true rfl) rfl dL_law_327 (fun rm w1 H locs hrm hKw W2 => ?_)
      refine lv_pop hx hb dL_law_330 rfl ?_
      refine lv_goto hx hb dL_law_331 (tgt := 370) rfl ?_
      obtain ⟨⟨b1, b2, b3⟩, bC⟩ := hKx
      obtain ⟨⟨d1, d2, d3⟩, dR⟩ := hKw
      exact fin H locs v1 w1 S b1 (d1.mono (by omega)) (by omega) (by omega) (bC.2.up (by omega)) dR.2 W2
    by_cases k10 : x = 10
    · refine lv_tableIn (off := 301) (tgt := 334) hx hb dL_law_33 (by rw [k10]; decide) (by rw [k10]; decide) (by rw [k10]; rfl) rfl ?_
      refine lv_aload_n hx hb dL_law_334 rfl (lv_at hl 2 rfl) ?_
      refine lv_aload_n hx hb dL_law_335 rfl (lv_at hl 3 rfl) ?_
      refine lv_iload_n hx hb dL_law_336 rfl (lv_at hl 0 rfl) ?_
      refine lv_iconst hx hb dL_law_337 (v := 1) rfl ?_
      refine lv_iadd hx hb dL_law_338 ?_
      rw [e1]
      refine va_sld hx hb hX hbl hbA W0.cS (vp_in_nI (show 6 * k + 1 < L by omega) (by omega)) dL_law_339 ?_
      rw [x1]
      refine lcI (n := 1) (e_11_tell ra1 (Q := fun (r : Int) (v1 : iST) => (HJ v1 ∧ v1.1 43 = v.1 43 ∧ v1.1 42 = v.1 42) ∧ (r = Sp.tellC S.1 a1 ∧ CfN v1 S ((44 + 30 * (k : Int)) + 30))) (cj_v_11_tell (Q1 := fun (r : Int) (v1 : iST) => (HJ v1 ∧ v1.1 43 = v.1 43 ∧ v1.1 42 = v.1 42)) (Q2 := fun (r : Int) (v1 : iST) => (r = Sp.tellC S.1 a1 ∧ CfN v1 S ((44 + 30 * (k : Int)) + 30))) (fun _ _ p q => ⟨p, q⟩) (j_tell hJ (fun r v1 h1 h2 h3 => ⟨h1, h2, h3⟩)) (pc_tellN (by omega) hC (fun v1 h => ⟨rfl, h⟩)))) rfl glc_X11_tell (by decide +kernel) F W0 (Nat.le_of_ble_eq_true rfl) (Nat.le_of_ble_eq_true rfl) hc hs rfl hl.1 (Nat.le_of_ble_eq_true rfl) rfl dL_law_340 (fun rx v1 H locs hrx hKx W1 => ?_)
      refine lv_aload_n hx hb dL_law_343 rfl (lv_at hl 1 rfl) ?_
      refine lv_aload_n hx hb dL_law_344 rfl (lv_at hl 3 rfl) ?_
      refine lv_iload_n hx hb dL_law_345 rfl (lv_at hl 0 rfl) ?_
      refine lv_iconst hx hb dL_law_346 (v := 1) rfl ?_
      refine lv_iadd hx hb dL_law_347 ?_
      rw [e1]
      refine va_sld hx hb hX hbl hbA W1.cS (vp_in_nI (show 6 * k + 1 < L by omega) (by omega)) dL_law_348 ?_
      rw [x1]
      refine lmI (n := 1) (c_tell ra1 (Q := fun (r : Int) (w1 : iST) => (HI w1 (100 * (k : Int)) ∧ w1.1 59 = w.1 59 ∧ w1.1 14 = w.1 14) ∧ (r = Sp.tellC S.1 a1 ∧ RfS w1 S)) (cj_w_tell (Q1 := fun (r : Int) (w1 : iST) => (HI w1 (100 * (k : Int)) ∧ w1.1 59 = w.1 59 ∧ w1.1 14 = w.1 14)) (Q2 := fun (r : Int) (w1 : iST) => (r = Sp.tellC S.1 a1 ∧ RfS w1 S)) (fun _ _ p q => ⟨p, q⟩) (g_tell hI (by omega) (fun r w1 h1 h2 h3 => ⟨h1, h2, h3⟩)) (p_tellS hR (fun w1 h => ⟨rfl, h⟩)))) glc_X12_tell (by decide +kernel) F W1 (Nat.le_of_ble_eq_true rfl) (Nat.le_of_ble_eq_true rfl) hc hs rfl hl.1 (Nat.le_of_ble_eq_true rfl) rfl dL_law_349 (fun rm w1 H locs hrm hKw W2 => ?_)
      have heq : rx = rm := by
        rw [hKx.2.1, hKw.2.1]
      refine lv_icmp_eq hx hb dL_law_352 (tgt := 370) rfl (fun h => ?_) (fun h => absurd (by rw [heq]) h)
      obtain ⟨⟨b1, b2, b3⟩, bC⟩ := hKx
      obtain ⟨⟨d1, d2, d3⟩, dR⟩ := hKw
      exact fin H locs v1 w1 S b1 (d1.mono (by omega)) (by omega) (by omega) (bC.2.up (by omega)) dR.2 W2
    by_cases k11 : x = 11
    · refine lv_tableIn (off := 324) (tgt := 357) hx hb dL_law_33 (by rw [k11]; decide) (by rw [k11]; decide) (by rw [k11]; rfl) rfl ?_
      refine lv_aload_n hx hb dL_law_357 rfl (lv_at hl 2 rfl) ?_
      refine lcI (n := 0) (e_11_recheck  (Q := fun (r : Int) (v1 : iST) => (HJ v1 ∧ v1.1 43 = v.1 43 ∧ v1.1 42 = v.1 42 ∧ bz r) ∧ (bq r S.2.2.2.2.2.2 ∧ CfN v1 S (44 + 30 * (k : Int)))) (cj_v_11_recheck (Q1 := fun (r : Int) (v1 : iST) => (HJ v1 ∧ v1.1 43 = v.1 43 ∧ v1.1 42 = v.1 42 ∧ bz r)) (Q2 := fun (r : Int) (v1 : iST) => (bq r S.2.2.2.2.2.2 ∧ CfN v1 S (44 + 30 * (k : Int)))) (fun _ _ p q => ⟨p, q⟩) (j_recheck hJ (fun r v1 h0 h1 h2 h3 => ⟨h1, h2, h3, h0⟩)) (wp_v_11_recheck (fun _ _ h => h) (k_againN hJ hC (fun r v1 h1 h2 _ => ⟨h1, h2⟩))))) rfl glc_X11_recheck (by decide +kernel) F W0 (Nat.le_of_ble_eq_true rfl) (Nat.le_of_ble_eq_true rfl) hc hs rfl hl.1 (Nat.le_of_ble_eq_true rfl) rfl dL_law_358 (fun rx v1 H locs hrx hKx W1 => ?_)
      refine lv_pop hx hb dL_law_361 rfl ?_
      refine lv_aload_n hx hb dL_law_362 rfl (lv_at hl 1 rfl) ?_
      refine lmI (n := 0) (c_recheck  (Q := fun (r : Int) (w1 : iST) => (HI w1 (100 * (k : Int)) ∧ w1.1 59 = w.1 59 ∧ w1.1 14 = w.1 14 ∧ bz r) ∧ (bq r S.2.2.2.2.2.2 ∧ RfS w1 S)) (cj_w_recheck (Q1 := fun (r : Int) (w1 : iST) => (HI w1 (100 * (k : Int)) ∧ w1.1 59 = w.1 59 ∧ w1.1 14 = w.1 14 ∧ bz r)) (Q2 := fun (r : Int) (w1 : iST) => (bq r S.2.2.2.2.2.2 ∧ RfS w1 S)) (fun _ _ p q => ⟨p, q⟩) (g_recheck (fun r h => ⟨hI, rfl, rfl, h⟩)) (p_recheckS hR (fun r h => ⟨h, hR⟩)))) glc_X12_recheck (by decide +kernel) F W1 (Nat.le_of_ble_eq_true rfl) (Nat.le_of_ble_eq_true rfl) hc hs rfl hl.1 (Nat.le_of_ble_eq_true rfl) rfl dL_law_363 (fun rm w1 H locs hrm hKw W2 => ?_)
      refine lv_pop hx hb dL_law_366 rfl ?_
      refine lv_goto hx hb dL_law_367 (tgt := 370) rfl ?_
      obtain ⟨⟨b1, b2, b3⟩, bC⟩ := hKx
      obtain ⟨⟨d1, d2, d3⟩, dR⟩ := hKw
      exact fin H locs v1 w1 S b1 (d1.mono (by omega)) (by omega) (by have := b3.1; have := d3.1; omega) (bC.2.up (by omega)) dR.2 W2
    refine lv_tableOut (tgt := 370) hx hb dL_law_33 (t_out (hi := 11) 0 (fun k hk => by rcases (show k = 0 ∨ k = 1 ∨ k = 2 ∨ k = 3 ∨ k = 4 ∨ k = 5 ∨ k = 6 ∨ k = 7 ∨ k = 8 ∨ k = 9 ∨ k = 10 ∨ k = 11 by omega) with rfl | rfl | rfl | rfl | rfl | rfl | rfl | rfl | rfl | rfl | rfl | rfl <;> assumption) (by decide) rfl) rfl ?_
    exact fin H locs v w S hJ (hI.mono (by omega)) h59 h14 (hC.up (by omega)) hR W0
