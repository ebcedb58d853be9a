set_option maxHeartbeats 16000000 in
set_option maxRecDepth 100000 in
/-- the law, on scripts of at most six ints -/
theorem start6 {p : Program} {e : Env} {s : State} {m : MethodId} {below : List Frame} {meth : Method} {c : Code} (l : Launch) {b L : Nat} {xs : Nat → Int32} (hL : L ≤ 6) (C0 : lw_At p s m meth c b L xs) : W p l e room_1 s m #[Value.ref b] below meth c s.heap [] 0 0 (lw_Z below #[Value.ref b] s) (entryFrame m ([Value.ref b] : List Value).toArray 4) := by
  obtain ⟨hx, hb, hr, hml, hown, hts, hX, hbl, hlocks, hgv⟩ := id C0
  have hown : s.vm.findClass "ProofHouseLaw" = some m.cls := hown
  obtain ⟨A, hAd⟩ : ∃ A : Nat → Prop, A = fun q => s.heap.size ≤ q := ⟨_, rfl⟩
  have hA : ∀ q : Nat, s.heap.size ≤ q → A q := by rw [hAd]; exact fun _ h => h
  have hAn : ∀ q : Nat, q < s.heap.size → ¬ A q := by rw [hAd]; exact fun _ h => Nat.not_le.mpr h
  have hbA : ¬ A b := hAn b hbl
  obtain ⟨c0, iS0, hKn0⟩ := u_known (C := RX0) (T := TX0) (N := 21) (n := 21) hts (fun w h => (gl_wsX00 w h).1) (hts _ lq_n0)
  obtain ⟨c1, iS1, hKn1⟩ := u_known (C := RX1) (T := TX1) (N := 4) (n := 4) hts (fun w h => (gl_wsX10 w h).1) (hts _ lq_n1)
  obtain ⟨c2, iS2, hKn2⟩ := u_known (C := RX2) (T := TX2) (N := 15) (n := 15) hts (fun w h => (gl_wsX20 w h).1) (hts _ lq_n2)
  obtain ⟨c3, iS3, hKn3⟩ := u_known (C := RX3) (T := TX3) (N := 11) (n := 11) hts (fun w h => (gl_wsX30 w h).1) (hts _ lq_n3)
  obtain ⟨c4, iS4, hKn4⟩ := u_known (C := RX4) (T := TX4) (N := 11) (n := 11) hts (fun w h => (gl_wsX40 w h).1) (hts _ lq_n4)
  obtain ⟨c5, iS5, hKn5⟩ := u_known (C := RX5) (T := TX5) (N := 11) (n := 11) hts (fun w h => (gl_wsX50 w h).1) (hts _ lq_n5)
  obtain ⟨c6, iS6, hKn6⟩ := u_known (C := RX6) (T := TX6) (N := 14) (n := 14) hts (fun w h => (gl_wsX60 w h).1) (hts _ lq_n6)
  obtain ⟨c7, iS7, hKn7⟩ := u_known (C := RX7) (T := TX7) (N := 9) (n := 9) hts (fun w h => (gl_wsX70 w h).1) (hts _ lq_n7)
  obtain ⟨c8, iS8, hKn8⟩ := u_known (C := RX8) (T := TX8) (N := 11) (n := 11) hts (fun w h => (gl_wsX80 w h).1) (hts _ lq_n8)
  obtain ⟨c9, iS9, hKn9⟩ := u_known (C := RX9) (T := TX9) (N := 4) (n := 4) hts (fun w h => (gl_wsX90 w h).1) (hts _ lq_n9)
  obtain ⟨c10, iS10, hKn10⟩ := u_known (C := RX10) (T := TX10) (N := 16) (n := 16) hts (fun w h => (gl_wsX100 w h).1) (hts _ lq_n10)
  obtain ⟨c11, iS11, hKn11⟩ := u_known (C := RX11) (T := TX11) (N := 21) (n := 21) hts (fun w h => (gl_wsX110 w h).1) (hts _ lq_n11)
  obtain ⟨c12, iS12, hKn12⟩ := u_known (C := RX12) (T := TX12) (N := 149) (n := 149) hts (fun w h => (gl_wsX120 w h).1) (hts _ lq_n12)
  obtain ⟨D, hKc⟩ : ∃ D : va_G, ∀ (k : Nat) (q : vw_C), vwCl[k]? = some q → u_Kn s q.1 q.2.1 q.2.2 (D.1 k) (D.2 k) := by
    refine ⟨(fun k => ([c0, c1, c2, c3, c4, c5, c6, c7, c8, c9, c10, c11, c12] : List ClassId).getD k c0, fun k => ([iS0, iS1, iS2, iS3, iS4, iS5, iS6, iS7, iS8, iS9, iS10, iS11, iS12] : List (Nat → Nat)).getD k iS0), ?_⟩
    intro k q hq
    match k, hq with
    | 0, hq => cases hq; exact hKn0
    | 1, hq => cases hq; exact hKn1
    | 2, hq => cases hq; exact hKn2
    | 3, hq => cases hq; exact hKn3
    | 4, hq => cases hq; exact hKn4
    | 5, hq => cases hq; exact hKn5
    | 6, hq => cases hq; exact hKn6
    | 7, hq => cases hq; exact hKn7
    | 8, hq => cases hq; exact hKn8
    | 9, hq => cases hq; exact hKn9
    | 10, hq => cases hq; exact hKn10
    | 11, hq => cases hq; exact hKn11
    | 12, hq => cases hq; exact hKn12
    | k + 13, hq => simp [vwCl] at hq
  clear hKn0 hKn1 hKn2 hKn3 hKn4 hKn5 hKn6 hKn7 hKn8 hKn9 hKn10 hKn11 hKn12
  have hS : va_S A s.heap s.heap [] := va_S.rf
  have hK : va_K D vwCl [] s := ⟨hKc, fun k q h => by simp at h⟩
  have hP : va_P D vwCl [] s.heap := p_nil
  have hD : va_D A [] := d_nil
  obtain ⟨adK, adV, hSS, hSt⟩ := s_start hts hgv hAn
  have hNN : hN s := ⟨va_AO.of (hts _ lq_ao), mn_over (hts _ lq_ai), va_Nw.of rfl (hts _ lq_l4), va_Nw.of rfl (hts _ lq_l3), va_Nw.of rfl (hts _ lq_f20)⟩
  have hMM : hM s := ⟨va_Nw.of rfl (hts _ lq_f150), va_Nw.of rfl (hts _ lq_f186), va_Nw.of rfl (hts _ lq_f189), va_Nw.of rfl (hts _ lq_f192), va_Nw.of rfl (hts _ lq_f199), va_Nw.of rfl (hts _ lq_f202), va_Nw.of rfl (hts _ lq_f208), va_Nw.of rfl (hts _ lq_f257), va_Nw.of rfl (hts _ lq_f157)⟩
  have hl := lv_entry ([.ref b]) (n := 4) (Nat.le_of_ble_eq_true rfl)
  rw [lg_entry_eq]
  generalize (lg_sl ([.ref b]) ++ List.replicate (4 - (lg_sl ([.ref b])).length) Slot.unset).toArray = ls at hl ⊢
  have hl : lv_has ls 4 [(0, .ref b)] := hl
  refine va_new (ci := 11) (fs := [.null, .null, .null, .null, .null, .null, .null, .null, .null, .null, .null, .int 0, .null, .int 0, .int 0, .int 0, .int 0, .int 0, .int 0, .int 0, .int 0]) (C := RX11) (T := TX11) (N := 21) hx hb hts (fun w h => (gl_wsX110 w h).1) tyX11 tyX11_ok hown (hts _ lq_c11) (hts _ lq_n11) (hts _ lq_z11) hK hP hD hS hA rfl (fun j hj => by rcases (show j = 0 ∨ j = 1 ∨ j = 2 ∨ j = 3 ∨ j = 4 ∨ j = 5 ∨ j = 6 ∨ j = 7 ∨ j = 8 ∨ j = 9 ∨ j = 10 ∨ j = 11 ∨ j = 12 ∨ j = 13 ∨ j = 14 ∨ j = 15 ∨ j = 16 ∨ j = 17 ∨ j = 18 ∨ j = 19 ∨ j = 20 by omega) with rfl | rfl | rfl | rfl | rfl | rfl | rfl | rfl | rfl | rfl | rfl | rfl | rfl | rfl | rfl | rfl | rfl | rfl | rfl | rfl | rfl <;> rfl) (Nat.le_of_ble_eq_true rfl) (Nat.le_of_ble_eq_true rfl) dL_law_0 ?_
  clear hP hD hS
  intro q1 H hP hD hS
  have hP : va_P D vwCl [(q1, .inr (11, [.null, .null, .null, .null, .null, .null, .null, .null, .null, .null, .null, .int 0, .null, .int 0, .int 0, .int 0, .int 0, .int 0, .int 0, .int 0, .int 0]))] H := hP
  have hD : va_D A [(q1, .inr (11, [.null, .null, .null, .null, .null, .null, .null, .null, .null, .null, .null, .int 0, .null, .int 0, .int 0, .int 0, .int 0, .int 0, .int 0, .int 0, .int 0]))] := hD
  refine lv_dup hx hb dL_law_3 rfl ?_
  have hFc := pl_free hD hS hA
  refine va_callv (va_runI (As := []) (rest := [.ref q1]) ⟨hx, hb, hml, hown, hts⟩ (c_X11_init l D q1 H.size adK adV) (cwI 0 hts gl_wsX11_init rfl rfl rfl (hts _ lq_z11) (hts _ lq_m11) (hts _ lq_i11) rfl (by decide +kernel) ⟨Nat.le_of_ble_eq_true rfl, Nat.le_of_ble_eq_true rfl⟩) ⟨fun a9 U g mk q => by obtain ⟨y0, y1, yP, yK, yD, yN, yR, yS⟩ := q; exact ⟨y0, y1, yP, va_K.moved (u := U) (U := U.calling g mk a9) (Vm.Alike.refl U.vm) yK, yD, hN.same rfl yN, hStr.same rfl yR, sS.moved (u := U) (U := U.calling g mk a9) (Vm.Alike.refl U.vm) yS⟩, fun U hU hW => ⟨rfl, by rw [hU], by rw [hU]; exact hP, va_K.moved hW.alike hK, hD.weaken (fun _ _ _ _ => trivial), hN.warm hW hNN, hStr.warm hW hSt, by rw [hU]; exact sS.moved hW.alike ((hSS.kept hS.2.1).narrow hFc)⟩⟩ rfl rfl hl.1 rfl (lv_room (Nat.le_of_ble_eq_true rfl)) dL_law_4 ⟨Nat.le_of_ble_eq_true rfl, Nat.le_of_ble_eq_true rfl⟩) hS (fun q _ h => hFc q h) hFc ?_
  intro u1 t1 H1 lo1 ht1 hv1 hn hB1 hz1 hk1 hS1
  obtain ⟨a, ca, n⟩ := u1
  obtain ⟨hP1, hK1, hD1⟩ := hB1
  rw [ht1] at hP1
  replace hK := va_K.moved hv1.symm hK1
  replace hD := hD1.weaken (fun _ _ _ h => hFc _ h)
  replace hP := hP1
  replace hS := hS1
  clear hP1 hK1 hD1 hS1 hFc hz1 hk1 ht1 hv1
  dsimp only at hn hP hK hD
  refine lv_astore_n hx hb dL_law_7 rfl hl (by decide) rfl (fun ls hl => ?_)
  have hl : lv_has ls 4 [(1, .ref q1), (0, .ref b)] := hl
  refine va_new (ci := 12) (fs := mF0) (C := RX12) (T := TX12) (N := 149) hx hb hts (fun w h => (gl_wsX120 w h).1) tyX12 tyX12_ok hown (hts _ lq_c12) (hts _ lq_n12) (hts _ lq_z12) hK hP hD hS hA rfl mF0_ok (Nat.le_of_ble_eq_true rfl) (Nat.le_of_ble_eq_true rfl) dL_law_8 ?_
  clear hP hD hS
  intro q2 H hP hD hS
  refine lv_dup hx hb dL_law_11 rfl ?_
  have hFc := pl_free (d_right hD) hS hA
  refine va_callv (va_runI (As := []) (rest := [.ref q2]) ⟨hx, hb, hml, hown, hts⟩ (c_m_init l D q2 H.size) (cwI 0 hts gl_wsX12_init rfl rfl rfl (hts _ lq_z12) (hts _ lq_m12) (hts _ lq_i12) rfl (by decide +kernel) ⟨Nat.le_of_ble_eq_true rfl, Nat.le_of_ble_eq_true rfl⟩) ⟨fun a9 U g mk q => by obtain ⟨y0, y1, yP, yK, yD⟩ := q; exact ⟨y0, y1, yP, va_K.moved (u := U) (U := U.calling g mk a9) (Vm.Alike.refl U.vm) yK, yD⟩, fun U hU hW => ⟨rfl, by rw [hU], by rw [hU]; exact p_right hP, va_K.moved hW.alike (hK.sub (tys' := []) [] rfl), (d_right hD).weaken (fun _ _ _ _ => trivial)⟩⟩ rfl rfl hl.1 rfl (lv_room (Nat.le_of_ble_eq_true rfl)) dL_law_12 ⟨Nat.le_of_ble_eq_true rfl, Nat.le_of_ble_eq_true rfl⟩) hS (fun q _ h => hFc q h) hFc ?_
  intro u2 t2 H2 lo2 ht2 hv2 hw2 hB2 hz2 hk2 hS2
  obtain ⟨ad, ca2, u⟩ := u2
  obtain ⟨n2, hn2, hOk, hF⟩ := hw2
  obtain ⟨hP2, hK2, hD2⟩ := hB2
  rw [ht2] at hP2
  dsimp only at hOk hF hP2 hK2 hD2
  obtain ⟨hP9, hD9⟩ := p_join hP hD hk2 hFc hP2 hD2
  replace hK := hK.app (va_K.moved hv2.symm hK2)
  replace hP := hP9
  replace hD := hD9
  replace hS := hS2
  clear hP9 hD9 hP2 hD2 hK2 hS2 hFc hz2 hk2 ht2 hv2
  generalize H2 = H at hP hS ⊢
  refine lv_astore_n hx hb dL_law_15 rfl hl (by decide) rfl (fun ls hl => ?_)
  refine lv_iconst hx hb dL_law_16 (v := 0) rfl ?_
  refine lv_istore_n hx hb dL_law_17 rfl hl (by decide) rfl (fun ls hl => ?_)
  have hl : lv_has ls 4 [(3, .int 0), (2, .ref q2), (1, .ref q1), (0, .ref b)] := hl
  refine lv_iload_n hx hb dL_law_18 rfl (lv_at hl 0 rfl) ?_
  refine lv_aload_n hx hb dL_law_19 rfl (lv_at hl 3 rfl) ?_
  refine va_slen hx hb hX hbl hbA hS dL_law_20 ?_
  refine lv_bipush hx hb dL_law_21 (v := 6) rfl ?_
  refine lv_isub hx hb dL_law_23 ?_
  refine lv_icmp_gt hx hb dL_law_24 (tgt := 376) rfl (fun h => ?_) (fun h => ?_)
  · exact l_end hx hb hr hlocks (by have := hS.2.2; rw [hAd] at this; exact this) (Nat.le_of_ble_eq_true rfl) (Nat.le_of_ble_eq_true rfl)
  have hL6 : L = 6 := by
    rcases Nat.lt_or_ge L 6 with h9 | h9
    · exact absurd (l_short h9) h
    · omega
  subst hL6
  clear h
  have hfin : ∀ (H : Heap) (locs : List Loc) (cells slots : Nat), va_S A s.heap H locs → cells ≤ 598739 → slots ≤ 7306032 → W p l e room_1 s m #[Value.ref b] below meth c H locs cells slots (lw_Z below #[Value.ref b] s) (F0 m 370 ls []) := fun H locs cells slots hS h1 h2 => l_fin hx hb hr hlocks hX hbl (by rw [hAd] at hS; exact hS) hl h1 h2
  refine lv_aload_n hx hb dL_law_27 rfl (lv_at hl 3 rfl) ?_
  refine lv_iload_n hx hb dL_law_28 rfl (lv_at hl 0 rfl) ?_
  refine va_sld hx hb hX hbl hbA hS (by unfold vp_in; decide) dL_law_29 ?_
  refine lv_bipush hx hb dL_law_30 (v := 15) rfl ?_
  refine lv_iand hx hb dL_law_32 ?_
  refine lv_topi (fun v ev => ?_)
  by_cases k0 : v = 0
  · refine lv_tableIn (off := 63) (tgt := 96) hx hb dL_law_33 (by rw [k0]; decide) (by rw [k0]; decide) (by rw [k0]; rfl) rfl ?_
    refine lv_aload_n hx hb dL_law_96 rfl (lv_at hl 2 rfl) ?_
    refine lv_aload_n hx hb dL_law_97 rfl (lv_at hl 3 rfl) ?_
    refine lv_iload_n hx hb dL_law_98 rfl (lv_at hl 0 rfl) ?_
    refine lv_iconst hx hb dL_law_99 (v := 1) rfl ?_
    refine lv_iadd hx hb dL_law_100 ?_
    refine va_sld hx hb hX hbl hbA hS (by unfold vp_in; decide) dL_law_101 ?_
    refine lv_aload_n hx hb dL_law_102 rfl (lv_at hl 3 rfl) ?_
    refine lv_iload_n hx hb dL_law_103 rfl (lv_at hl 0 rfl) ?_
    refine lv_iconst hx hb dL_law_104 (v := 2) rfl ?_
    refine lv_iadd hx hb dL_law_105 ?_
    refine va_sld hx hb hX hbl hbA hS (by unfold vp_in; decide) dL_law_106 ?_
    refine lv_aload_n hx hb dL_law_107 rfl (lv_at hl 3 rfl) ?_
    refine lv_iload_n hx hb dL_law_108 rfl (lv_at hl 0 rfl) ?_
    refine lv_iconst hx hb dL_law_109 (v := 3) rfl ?_
    refine lv_iadd hx hb dL_law_110 ?_
    refine va_sld hx hb hX hbl hbA hS (by unfold vp_in; decide) dL_law_111 ?_
    refine lv_aload_n hx hb dL_law_112 rfl (lv_at hl 3 rfl) ?_
    refine lv_iload_n hx hb dL_law_113 rfl (lv_at hl 0 rfl) ?_
    refine lv_iconst hx hb dL_law_114 (v := 4) rfl ?_
    refine lv_iadd hx hb dL_law_115 ?_
    refine va_sld hx hb hX hbl hbA hS (by unfold vp_in; decide) dL_law_116 ?_
    refine lv_aload_n hx hb dL_law_117 rfl (lv_at hl 3 rfl) ?_
    refine lv_iload_n hx hb dL_law_118 rfl (lv_at hl 0 rfl) ?_
    refine lv_iconst hx hb dL_law_119 (v := 5) rfl ?_
    refine lv_iadd hx hb dL_law_120 ?_
    refine va_sld hx hb hX hbl hbA hS (by unfold vp_in; decide) dL_law_121 ?_
    have hFc := pl_free (d_left hD) hS hA
    refine va_callv (va_runV (As := [.int (xs (0 + 1 : Int32).toNatClampNeg), .int (xs (0 + 2 : Int32).toNatClampNeg), .int (xs (0 + 3 : Int32).toNatClampNeg), .int (xs (0 + 4 : Int32).toNatClampNeg), .int (xs (0 + 5 : Int32).toNatClampNeg)]) (rest := []) ⟨hx, hb, hml, hown, hts⟩ (h_feed l D q1 H.size a ca n (xs (0 + 1 : Int32).toNatClampNeg) (xs (0 + 2 : Int32).toNatClampNeg) (xs (0 + 3 : Int32).toNatClampNeg) (xs (0 + 4 : Int32).toNatClampNeg) (xs (0 + 5 : Int32).toNatClampNeg)) (cwV 5 hts glc_X11_feed rfl rfl rfl (by decide +kernel) ⟨Nat.le_of_ble_eq_true rfl, Nat.le_of_ble_eq_true rfl⟩) ⟨fun a9 U g mk q => by obtain ⟨y0, y1, yP, yK, yD, yE⟩ := q; exact ⟨y0, y1, yP, va_K.moved (u := U) (U := U.calling g mk a9) (Vm.Alike.refl U.vm) yK, yD, hM.same rfl yE⟩, va_recv (k_left hK) (p_left hP) (ci := 11) (q0 := 0) rfl rfl, fun U hU hW => ⟨rfl, by rw [hU], by rw [hU]; exact p_left hP, va_K.moved hW.alike (k_left hK), (d_left hD).weaken (fun _ _ _ _ => trivial), hM.warm hW hMM⟩⟩ rfl rfl hl.1 rfl (lv_room (Nat.le_of_ble_eq_true rfl)) dL_law_122 ⟨Nat.le_of_ble_eq_true rfl, Nat.le_of_ble_eq_true rfl⟩) hS (fun q _ h => hFc q h) hFc ?_
    intro ux tx Hx lx htx hvx hwx hBx hzx hkx hSx
    have hPm := p_keepR hP hD hkx
    have hDm := d_right hD
    have hKm := k_right hK
    clear hP hD hK hS hFc hkx hzx hBx
    refine lv_aload_n hx hb dL_law_125 rfl (lv_at hl 1 rfl) ?_
    refine lv_aload_n hx hb dL_law_126 rfl (lv_at hl 3 rfl) ?_
    refine lv_iload_n hx hb dL_law_127 rfl (lv_at hl 0 rfl) ?_
    refine lv_iconst hx hb dL_law_128 (v := 1) rfl ?_
    refine lv_iadd hx hb dL_law_129 ?_
    refine va_sld hx hb hX hbl hbA hSx (by unfold vp_in; decide) dL_law_130 ?_
    refine lv_aload_n hx hb dL_law_131 rfl (lv_at hl 3 rfl) ?_
    refine lv_iload_n hx hb dL_law_132 rfl (lv_at hl 0 rfl) ?_
    refine lv_iconst hx hb dL_law_133 (v := 2) rfl ?_
    refine lv_iadd hx hb dL_law_134 ?_
    refine va_sld hx hb hX hbl hbA hSx (by unfold vp_in; decide) dL_law_135 ?_
    refine lv_aload_n hx hb dL_law_136 rfl (lv_at hl 3 rfl) ?_
    refine lv_iload_n hx hb dL_law_137 rfl (lv_at hl 0 rfl) ?_
    refine lv_iconst hx hb dL_law_138 (v := 3) rfl ?_
    refine lv_iadd hx hb dL_law_139 ?_
    refine va_sld hx hb hX hbl hbA hSx (by unfold vp_in; decide) dL_law_140 ?_
    refine lv_aload_n hx hb dL_law_141 rfl (lv_at hl 3 rfl) ?_
    refine lv_iload_n hx hb dL_law_142 rfl (lv_at hl 0 rfl) ?_
    refine lv_iconst hx hb dL_law_143 (v := 4) rfl ?_
    refine lv_iadd hx hb dL_law_144 ?_
    refine va_sld hx hb hX hbl hbA hSx (by unfold vp_in; decide) dL_law_145 ?_
    refine lv_aload_n hx hb dL_law_146 rfl (lv_at hl 3 rfl) ?_
    refine lv_iload_n hx hb dL_law_147 rfl (lv_at hl 0 rfl) ?_
    refine lv_iconst hx hb dL_law_148 (v := 5) rfl ?_
    refine lv_iadd hx hb dL_law_149 ?_
    refine va_sld hx hb hX hbl hbA hSx (by unfold vp_in; decide) dL_law_150 ?_
    have hFm := pl_free hDm hSx hA
    refine va_callv (va_runV (As := [.int (xs (0 + 1 : Int32).toNatClampNeg), .int (xs (0 + 2 : Int32).toNatClampNeg), .int (xs (0 + 3 : Int32).toNatClampNeg), .int (xs (0 + 4 : Int32).toNatClampNeg), .int (xs (0 + 5 : Int32).toNatClampNeg)]) (rest := []) ⟨hx, hb, hml, hown, hts⟩ (c_m_feed l D ca2 q2 Hx.size ad u (xs (0 + 1 : Int32).toNatClampNeg) (xs (0 + 2 : Int32).toNatClampNeg) (xs (0 + 3 : Int32).toNatClampNeg) (xs (0 + 4 : Int32).toNatClampNeg) (xs (0 + 5 : Int32).toNatClampNeg)) (cwV 5 hts glc_X12_feed rfl rfl rfl (by decide +kernel) ⟨Nat.le_of_ble_eq_true rfl, Nat.le_of_ble_eq_true rfl⟩) ⟨fun a9 U g mk q => by obtain ⟨y0, y1, yP, yK, yD⟩ := q; exact ⟨y0, y1, yP, va_K.moved (u := U) (U := U.calling g mk a9) (Vm.Alike.refl U.vm) yK, yD⟩, va_recv hKm hPm (ci := 12) (q0 := 0) rfl rfl, fun U hU hW => ⟨rfl, by rw [hU], by rw [hU]; exact hPm, va_K.moved hW.alike hKm, hDm.weaken (fun _ _ _ _ => trivial)⟩⟩ rfl rfl hl.1 rfl (lv_room (Nat.le_of_ble_eq_true rfl)) dL_law_151 ⟨Nat.le_of_ble_eq_true rfl, Nat.le_of_ble_eq_true rfl⟩) hSx (fun q _ h => hFm q h) hFm ?_
    intro um tm Hm lm htm hvm hwm hBm hzm hkm hSm
    refine lv_goto hx hb dL_law_154 (tgt := 370) rfl ?_
    exact hfin _ _ _ _ hSm (Nat.le_of_ble_eq_true rfl) (Nat.le_of_ble_eq_true rfl)
  by_cases k1 : v = 1
  · refine lv_tableIn (off := 124) (tgt := 157) hx hb dL_law_33 (by rw [k1]; decide) (by rw [k1]; decide) (by rw [k1]; rfl) rfl ?_
    refine lv_aload_n hx hb dL_law_157 rfl (lv_at hl 2 rfl) ?_
    refine lv_aload_n hx hb dL_law_158 rfl (lv_at hl 3 rfl) ?_
    refine lv_iload_n hx hb dL_law_159 rfl (lv_at hl 0 rfl) ?_
    refine lv_iconst hx hb dL_law_160 (v := 1) rfl ?_
    refine lv_iadd hx hb dL_law_161 ?_
    refine va_sld hx hb hX hbl hbA hS (by unfold vp_in; decide) dL_law_162 ?_
    have hFc := pl_free (d_left hD) hS hA
    refine va_calli (va_runV (As := [.int (xs (0 + 1 : Int32).toNatClampNeg)]) (rest := []) ⟨hx, hb, hml, hown, hts⟩ (h_end l D q1 H.size a ca n (xs (0 + 1 : Int32).toNatClampNeg)) (cwV 1 hts glc_X11_end rfl rfl rfl (by decide +kernel) ⟨Nat.le_of_ble_eq_true rfl, Nat.le_of_ble_eq_true rfl⟩) ⟨fun a9 U g mk q => by obtain ⟨y0, y1, yP, yK, yD, yE⟩ := q; exact ⟨y0, y1, yP, va_K.moved (u := U) (U := U.calling g mk a9) (Vm.Alike.refl U.vm) yK, yD, hM.same rfl yE⟩, va_recv (k_left hK) (p_left hP) (ci := 11) (q0 := 0) rfl rfl, fun U hU hW => ⟨rfl, by rw [hU], by rw [hU]; exact p_left hP, va_K.moved hW.alike (k_left hK), (d_left hD).weaken (fun _ _ _ _ => trivial), hM.warm hW hMM⟩⟩ rfl rfl hl.1 rfl (lv_room (Nat.le_of_ble_eq_true rfl)) dL_law_163 ⟨Nat.le_of_ble_eq_true rfl, Nat.le_of_ble_eq_true rfl⟩) hS (fun q _ h => hFc q h) hFc ?_
    intro rx ux tx Hx lx htx hvx hwx hBx hzx hkx hSx
    have hPm := p_keepR hP hD hkx
    have hDm := d_right hD
    have hKm := k_right hK
    clear hP hD hK hS hFc hkx hzx hBx
    refine lv_aload_n hx hb dL_law_166 rfl (lv_at hl 1 rfl) ?_
    refine lv_aload_n hx hb dL_law_167 rfl (lv_at hl 3 rfl) ?_
    refine lv_iload_n hx hb dL_law_168 rfl (lv_at hl 0 rfl) ?_
    refine lv_iconst hx hb dL_law_169 (v := 1) rfl ?_
    refine lv_iadd hx hb dL_law_170 ?_
    refine va_sld hx hb hX hbl hbA hSx (by unfold vp_in; decide) dL_law_171 ?_
    have hFm := pl_free hDm hSx hA
    refine va_calli (va_runV (As := [.int (xs (0 + 1 : Int32).toNatClampNeg)]) (rest := [.int rx]) ⟨hx, hb, hml, hown, hts⟩ (c_m_end l D ca2 q2 Hx.size ad u (xs (0 + 1 : Int32).toNatClampNeg) 0 ((hF.1 14 (by decide) (by decide) (by decide)).trans rfl) (by decide)) (cwV 1 hts glc_X12_end rfl rfl rfl (by decide +kernel) ⟨Nat.le_of_ble_eq_true rfl, Nat.le_of_ble_eq_true rfl⟩) ⟨fun a9 U g mk q => by obtain ⟨y0, y1, yP, yK, yD⟩ := q; exact ⟨y0, y1, yP, va_K.moved (u := U) (U := U.calling g mk a9) (Vm.Alike.refl U.vm) yK, yD⟩, va_recv hKm hPm (ci := 12) (q0 := 0) rfl rfl, fun U hU hW => ⟨rfl, by rw [hU], by rw [hU]; exact hPm, va_K.moved hW.alike hKm, hDm.weaken (fun _ _ _ _ => trivial)⟩⟩ rfl rfl hl.1 rfl (lv_room (Nat.le_of_ble_eq_true rfl)) dL_law_172 ⟨Nat.le_of_ble_eq_true rfl, Nat.le_of_ble_eq_true rfl⟩) hSx (fun q _ h => hFm q h) hFm ?_
    intro rm um tm Hm lm htm hvm hwm hBm hzm hkm hSm
    have heq : rx = rm := by
      rw [show u.1 14 = 0 from (hF.1 14 (by decide) (by decide) (by decide)).trans rfl] at hwm
      rcases hwx with ⟨g1, g2⟩ | ⟨K, k1, k2, k3⟩
      · rcases hwm with ⟨-, m2, -⟩ | ⟨K, k1, k2, k3, k4, k5⟩
        · rw [g2, m2]
        · exact absurd g1 (l_noend k1 k2)
      · rcases hwm with ⟨m1, m2, -⟩ | ⟨K2, j1, j2, j3, j4, j5⟩
        · exact absurd m1 (l_noend k1 k2)
        · rw [k3, j4, Nat.zero_add]; rw [k1] at j1; rw [j1]
    refine lv_icmp_eq hx hb dL_law_175 (tgt := 370) rfl (fun h => ?_) (fun h => ?_)
    · exact hfin _ _ _ _ hSm (Nat.le_of_ble_eq_true rfl) (Nat.le_of_ble_eq_true rfl)
    · exact absurd heq h
  by_cases k2 : v = 2
  · refine lv_tableIn (off := 147) (tgt := 180) hx hb dL_law_33 (by rw [k2]; decide) (by rw [k2]; decide) (by rw [k2]; rfl) rfl ?_
    refine lv_aload_n hx hb dL_law_180 rfl (lv_at hl 2 rfl) ?_
    refine lv_aload_n hx hb dL_law_181 rfl (lv_at hl 3 rfl) ?_
    refine lv_iload_n hx hb dL_law_182 rfl (lv_at hl 0 rfl) ?_
    refine lv_iconst hx hb dL_law_183 (v := 1) rfl ?_
    refine lv_iadd hx hb dL_law_184 ?_
    refine va_sld hx hb hX hbl hbA hS (by unfold vp_in; decide) dL_law_185 ?_
    have hFc := pl_free (d_left hD) hS hA
    refine va_calli (va_runV (As := [.int (xs (0 + 1 : Int32).toNatClampNeg)]) (rest := []) ⟨hx, hb, hml, hown, hts⟩ (h_fuel l D q1 H.size a ca n (xs (0 + 1 : Int32).toNatClampNeg)) (cwV 1 hts glc_X11_fuel rfl rfl rfl (by decide +kernel) ⟨Nat.le_of_ble_eq_true rfl, Nat.le_of_ble_eq_true rfl⟩) ⟨fun a9 U g mk q => by obtain ⟨y0, y1, yP, yK, yD, yE⟩ := q; exact ⟨y0, y1, yP, va_K.moved (u := U) (U := U.calling g mk a9) (Vm.Alike.refl U.vm) yK, yD, hM.same rfl yE⟩, va_recv (k_left hK) (p_left hP) (ci := 11) (q0 := 0) rfl rfl, fun U hU hW => ⟨rfl, by rw [hU], by rw [hU]; exact p_left hP, va_K.moved hW.alike (k_left hK), (d_left hD).weaken (fun _ _ _ _ => trivial), hM.warm hW hMM⟩⟩ rfl rfl hl.1 rfl (lv_room (Nat.le_of_ble_eq_true rfl)) dL_law_186 ⟨Nat.le_of_ble_eq_true rfl, Nat.le_of_ble_eq_true rfl⟩) hS (fun q _ h => hFc q h) hFc ?_
    intro rx ux tx Hx lx htx hvx hwx hBx hzx hkx hSx
    have hPm := p_keepR hP hD hkx
    have hDm := d_right hD
    have hKm := k_right hK
    clear hP hD hK hS hFc hkx hzx hBx
    refine lv_aload_n hx hb dL_law_189 rfl (lv_at hl 1 rfl) ?_
    refine lv_aload_n hx hb dL_law_190 rfl (lv_at hl 3 rfl) ?_
    refine lv_iload_n hx hb dL_law_191 rfl (lv_at hl 0 rfl) ?_
    refine lv_iconst hx hb dL_law_192 (v := 1) rfl ?_
    refine lv_iadd hx hb dL_law_193 ?_
    refine va_sld hx hb hX hbl hbA hSx (by unfold vp_in; decide) dL_law_194 ?_
    have hFm := pl_free hDm hSx hA
    refine va_calli (va_runV (As := [.int (xs (0 + 1 : Int32).toNatClampNeg)]) (rest := [.int rx]) ⟨hx, hb, hml, hown, hts⟩ (c_m_fuel l D ca2 q2 Hx.size ad u (xs (0 + 1 : Int32).toNatClampNeg)) (cwV 1 hts glc_X12_fuel rfl rfl rfl (by decide +kernel) ⟨Nat.le_of_ble_eq_true rfl, Nat.le_of_ble_eq_true rfl⟩) ⟨fun a9 U g mk q => by obtain ⟨y0, y1, yP, yK, yD⟩ := q; exact ⟨y0, y1, yP, va_K.moved (u := U) (U := U.calling g mk a9) (Vm.Alike.refl U.vm) yK, yD⟩, va_recv hKm hPm (ci := 12) (q0 := 0) rfl rfl, fun U hU hW => ⟨rfl, by rw [hU], by rw [hU]; exact hPm, va_K.moved hW.alike hKm, hDm.weaken (fun _ _ _ _ => trivial)⟩⟩ rfl rfl hl.1 rfl (lv_room (Nat.le_of_ble_eq_true rfl)) dL_law_195 ⟨Nat.le_of_ble_eq_true rfl, Nat.le_of_ble_eq_true rfl⟩) hSx (fun q _ h => hFm q h) hFm ?_
    intro rm um tm Hm lm htm hvm hwm hBm hzm hkm hSm
    have heq : rx = rm := by
      rw [hwx]
      by_cases h9 : (xs (0 + 1 : Int32).toNatClampNeg) < 1 ∨ 1000 < (xs (0 + 1 : Int32).toNatClampNeg)
      · rw [if_pos h9] at hwm ⊢; exact hwm.1.symm
      · rw [if_neg h9] at hwm ⊢; rw [hwm.1]; exact ((hF.1 59 (by decide) (by decide) (by decide)).trans rfl).symm
    refine lv_icmp_eq hx hb dL_law_198 (tgt := 370) rfl (fun h => ?_) (fun h => ?_)
    · exact hfin _ _ _ _ hSm (Nat.le_of_ble_eq_true rfl) (Nat.le_of_ble_eq_true rfl)
    · exact absurd heq h
  by_cases k3 : v = 3
  · refine lv_tableIn (off := 170) (tgt := 203) hx hb dL_law_33 (by rw [k3]; decide) (by rw [k3]; decide) (by rw [k3]; rfl) rfl ?_
    refine lv_aload_n hx hb dL_law_203 rfl (lv_at hl 2 rfl) ?_
    have hFc := pl_free (d_left hD) hS hA
    refine va_calli (va_runV (As := []) (rest := []) ⟨hx, hb, hml, hown, hts⟩ (h_run l D q1 H.size a ca n  hn) (cwV 0 hts glc_X11_run rfl rfl rfl (by decide +kernel) ⟨Nat.le_of_ble_eq_true rfl, Nat.le_of_ble_eq_true rfl⟩) ⟨fun a9 U g mk q => by obtain ⟨y0, y1, yP, yK, yD, yE⟩ := q; exact ⟨y0, y1, yP, va_K.moved (u := U) (U := U.calling g mk a9) (Vm.Alike.refl U.vm) yK, yD, hM.same rfl yE⟩, va_recv (k_left hK) (p_left hP) (ci := 11) (q0 := 0) rfl rfl, fun U hU hW => ⟨rfl, by rw [hU], by rw [hU]; exact p_left hP, va_K.moved hW.alike (k_left hK), (d_left hD).weaken (fun _ _ _ _ => trivial), hM.warm hW hMM⟩⟩ rfl rfl hl.1 rfl (lv_room (Nat.le_of_ble_eq_true rfl)) dL_law_204 ⟨Nat.le_of_ble_eq_true rfl, Nat.le_of_ble_eq_true rfl⟩) hS (fun q _ h => hFc q h) hFc ?_
    intro rx ux tx Hx lx htx hvx hwx hBx hzx hkx hSx
    have hPm := p_keepR hP hD hkx
    have hDm := d_right hD
    have hKm := k_right hK
    clear hP hD hK hS hFc hkx hzx hBx
    refine lv_aload_n hx hb dL_law_207 rfl (lv_at hl 1 rfl) ?_
    have hFm := pl_free hDm hSx hA
    refine va_calli (va_runV (As := []) (rest := [.int rx]) ⟨hx, hb, hml, hown, hts⟩ (c_m_run0 l D ca2 q2 Hx.size ad u ((hF.1 14 (by decide) (by decide) (by decide)).trans rfl)) (cwV 0 hts glc_X12_run rfl rfl rfl (by decide +kernel) ⟨Nat.le_of_ble_eq_true rfl, Nat.le_of_ble_eq_true rfl⟩) ⟨fun a9 U g mk q => by obtain ⟨y0, y1, yP, yK, yD⟩ := q; exact ⟨y0, y1, yP, va_K.moved (u := U) (U := U.calling g mk a9) (Vm.Alike.refl U.vm) yK, yD⟩, va_recv hKm hPm (ci := 12) (q0 := 0) rfl rfl, fun U hU hW => ⟨rfl, by rw [hU], by rw [hU]; exact hPm, va_K.moved hW.alike hKm, hDm.weaken (fun _ _ _ _ => trivial)⟩⟩ rfl rfl hl.1 rfl (lv_room (Nat.le_of_ble_eq_true rfl)) dL_law_208 ⟨Nat.le_of_ble_eq_true rfl, Nat.le_of_ble_eq_true rfl⟩) hSx (fun q _ h => hFm q h) hFm ?_
    intro rm um tm Hm lm htm hvm hwm hBm hzm hkm hSm
    have heq : rx = rm := by
      rw [hwx, hwm]
    refine lv_icmp_eq hx hb dL_law_211 (tgt := 370) rfl (fun h => ?_) (fun h => ?_)
    · exact hfin _ _ _ _ hSm (Nat.le_of_ble_eq_true rfl) (Nat.le_of_ble_eq_true rfl)
    · exact absurd heq h
  by_cases k4 : v = 4
  · refine lv_tableIn (off := 183) (tgt := 216) hx hb dL_law_33 (by rw [k4]; decide) (by rw [k4]; decide) (by rw [k4]; rfl) rfl ?_
    refine lv_aload_n hx hb dL_law_216 rfl (lv_at hl 2 rfl) ?_
    refine lv_aload_n hx hb dL_law_217 rfl (lv_at hl 3 rfl) ?_
    refine lv_iload_n hx hb dL_law_218 rfl (lv_at hl 0 rfl) ?_
    refine lv_iconst hx hb dL_law_219 (v := 1) rfl ?_
    refine lv_iadd hx hb dL_law_220 ?_
    refine va_sld hx hb hX hbl hbA hS (by unfold vp_in; decide) dL_law_221 ?_
    have hFc := pl_free (d_left hD) hS hA
    refine va_calli (va_runV (As := [.int (xs (0 + 1 : Int32).toNatClampNeg)]) (rest := []) ⟨hx, hb, hml, hown, hts⟩ (h_fault l D q1 H.size a ca n (xs (0 + 1 : Int32).toNatClampNeg)) (cwV 1 hts glc_X11_fault rfl rfl rfl (by decide +kernel) ⟨Nat.le_of_ble_eq_true rfl, Nat.le_of_ble_eq_true rfl⟩) ⟨fun a9 U g mk q => by obtain ⟨y0, y1, yP, yK, yD, yE⟩ := q; exact ⟨y0, y1, yP, va_K.moved (u := U) (U := U.calling g mk a9) (Vm.Alike.refl U.vm) yK, yD, hM.same rfl yE⟩, va_recv (k_left hK) (p_left hP) (ci := 11) (q0 := 0) rfl rfl, fun U hU hW => ⟨rfl, by rw [hU], by rw [hU]; exact p_left hP, va_K.moved hW.alike (k_left hK), (d_left hD).weaken (fun _ _ _ _ => trivial), hM.warm hW hMM⟩⟩ rfl rfl hl.1 rfl (lv_room (Nat.le_of_ble_eq_true rfl)) dL_law_222 ⟨Nat.le_of_ble_eq_true rfl, Nat.le_of_ble_eq_true rfl⟩) hS (fun q _ h => hFc q h) hFc ?_
    intro rx ux tx Hx lx htx hvx hwx hBx hzx hkx hSx
    have hPm := p_keepR hP hD hkx
    have hDm := d_right hD
    have hKm := k_right hK
    clear hP hD hK hS hFc hkx hzx hBx
    refine lv_aload_n hx hb dL_law_225 rfl (lv_at hl 1 rfl) ?_
    refine lv_aload_n hx hb dL_law_226 rfl (lv_at hl 3 rfl) ?_
    refine lv_iload_n hx hb dL_law_227 rfl (lv_at hl 0 rfl) ?_
    refine lv_iconst hx hb dL_law_228 (v := 1) rfl ?_
    refine lv_iadd hx hb dL_law_229 ?_
    refine va_sld hx hb hX hbl hbA hSx (by unfold vp_in; decide) dL_law_230 ?_
    have hFm := pl_free hDm hSx hA
    refine va_calli (va_runV (As := [.int (xs (0 + 1 : Int32).toNatClampNeg)]) (rest := [.int rx]) ⟨hx, hb, hml, hown, hts⟩ (c_m_fault l D ca2 q2 Hx.size ad u (xs (0 + 1 : Int32).toNatClampNeg)) (cwV 1 hts glc_X12_fault rfl rfl rfl (by decide +kernel) ⟨Nat.le_of_ble_eq_true rfl, Nat.le_of_ble_eq_true rfl⟩) ⟨fun a9 U g mk q => by obtain ⟨y0, y1, yP, yK, yD⟩ := q; exact ⟨y0, y1, yP, va_K.moved (u := U) (U := U.calling g mk a9) (Vm.Alike.refl U.vm) yK, yD⟩, va_recv hKm hPm (ci := 12) (q0 := 0) rfl rfl, fun U hU hW => ⟨rfl, by rw [hU], by rw [hU]; exact hPm, va_K.moved hW.alike hKm, hDm.weaken (fun _ _ _ _ => trivial)⟩⟩ rfl rfl hl.1 rfl (lv_room (Nat.le_of_ble_eq_true rfl)) dL_law_231 ⟨Nat.le_of_ble_eq_true rfl, Nat.le_of_ble_eq_true rfl⟩) hSx (fun q _ h => hFm q h) hFm ?_
    intro rm um tm Hm lm htm hvm hwm hBm hzm hkm hSm
    have heq : rx = rm := by
      rw [hwx, hwm.2, show u.1 24 = 0 from (hF.1 24 (by decide) (by decide) (by decide)).trans rfl, show u.1 25 = -1 from (hF.1 25 (by decide) (by decide) (by decide)).trans rfl, show u.1 61 = 0 from (hF.1 61 (by decide) (by decide) (by decide)).trans rfl]
    refine lv_icmp_eq hx hb dL_law_234 (tgt := 370) rfl (fun h => ?_) (fun h => ?_)
    · exact hfin _ _ _ _ hSm (Nat.le_of_ble_eq_true rfl) (Nat.le_of_ble_eq_true rfl)
    · exact absurd heq h
  by_cases k5 : v = 5
  · refine lv_tableIn (off := 206) (tgt := 239) hx hb dL_law_33 (by rw [k5]; decide) (by rw [k5]; decide) (by rw [k5]; rfl) rfl ?_
    refine lv_aload_n hx hb dL_law_239 rfl (lv_at hl 2 rfl) ?_
    have hFc := pl_free (d_left hD) hS hA
    refine va_calli (va_runV (As := []) (rest := []) ⟨hx, hb, hml, hown, hts⟩ (h_steps l D q1 H.size a ca n ) (cwV 0 hts glc_X11_steps rfl rfl rfl (by decide +kernel) ⟨Nat.le_of_ble_eq_true rfl, Nat.le_of_ble_eq_true rfl⟩) ⟨fun a9 U g mk q => by obtain ⟨y0, y1, yP, yK, yD, yE⟩ := q; exact ⟨y0, y1, yP, va_K.moved (u := U) (U := U.calling g mk a9) (Vm.Alike.refl U.vm) yK, yD, hM.same rfl yE⟩, va_recv (k_left hK) (p_left hP) (ci := 11) (q0 := 0) rfl rfl, fun U hU hW => ⟨rfl, by rw [hU], by rw [hU]; exact p_left hP, va_K.moved hW.alike (k_left hK), (d_left hD).weaken (fun _ _ _ _ => trivial), hM.warm hW hMM⟩⟩ rfl rfl hl.1 rfl (lv_room (Nat.le_of_ble_eq_true rfl)) dL_law_240 ⟨Nat.le_of_ble_eq_true rfl, Nat.le_of_ble_eq_true rfl⟩) hS (fun q _ h => hFc q h) hFc ?_
    intro rx ux tx Hx lx htx hvx hwx hBx hzx hkx hSx
    have hPm := p_keepR hP hD hkx
    have hDm := d_right hD
    have hKm := k_right hK
    clear hP hD hK hS hFc hkx hzx hBx
    refine lv_aload_n hx hb dL_law_243 rfl (lv_at hl 1 rfl) ?_
    have hFm := pl_free hDm hSx hA
    refine va_calli (va_runV (As := []) (rest := [.int rx]) ⟨hx, hb, hml, hown, hts⟩ (c_m_steps l D ca2 q2 Hx.size ad u) (cwV 0 hts glc_X12_steps rfl rfl rfl (by decide +kernel) ⟨Nat.le_of_ble_eq_true rfl, Nat.le_of_ble_eq_true rfl⟩) ⟨fun a9 U g mk q => by obtain ⟨y0, y1, yP, yK, yD⟩ := q; exact ⟨y0, y1, yP, va_K.moved (u := U) (U := U.calling g mk a9) (Vm.Alike.refl U.vm) yK, yD⟩, va_recv hKm hPm (ci := 12) (q0 := 0) rfl rfl, fun U hU hW => ⟨rfl, by rw [hU], by rw [hU]; exact hPm, va_K.moved hW.alike hKm, hDm.weaken (fun _ _ _ _ => trivial)⟩⟩ rfl rfl hl.1 rfl (lv_room (Nat.le_of_ble_eq_true rfl)) dL_law_244 ⟨Nat.le_of_ble_eq_true rfl, Nat.le_of_ble_eq_true rfl⟩) hSx (fun q _ h => hFm q h) hFm ?_
    intro rm um tm Hm lm htm hvm hwm hBm hzm hkm hSm
    have heq : rx = rm := by
      rw [hwx, hwm.2]
      exact ((hF.1 60 (by decide) (by decide) (by decide)).trans rfl).symm
    refine lv_icmp_eq hx hb dL_law_247 (tgt := 370) rfl (fun h => ?_) (fun h => ?_)
    · exact hfin _ _ _ _ hSm (Nat.le_of_ble_eq_true rfl) (Nat.le_of_ble_eq_true rfl)
    · exact absurd heq h
  by_cases k6 : v = 6
  · refine lv_tableIn (off := 219) (tgt := 252) hx hb dL_law_33 (by rw [k6]; decide) (by rw [k6]; decide) (by rw [k6]; rfl) rfl ?_
    refine lv_aload_n hx hb dL_law_252 rfl (lv_at hl 2 rfl) ?_
    refine lv_aload_n hx hb dL_law_253 rfl (lv_at hl 3 rfl) ?_
    refine lv_iload_n hx hb dL_law_254 rfl (lv_at hl 0 rfl) ?_
    refine lv_iconst hx hb dL_law_255 (v := 1) rfl ?_
    refine lv_iadd hx hb dL_law_256 ?_
    refine va_sld hx hb hX hbl hbA hS (by unfold vp_in; decide) dL_law_257 ?_
    have hFc := pl_free (d_left hD) hS hA
    refine va_calli (va_runV (As := [.int (xs (0 + 1 : Int32).toNatClampNeg)]) (rest := []) ⟨hx, hb, hml, hown, hts⟩ (h_count l D q1 H.size a ca n (xs (0 + 1 : Int32).toNatClampNeg)) (cwV 1 hts glc_X11_count rfl rfl rfl (by decide +kernel) ⟨Nat.le_of_ble_eq_true rfl, Nat.le_of_ble_eq_true rfl⟩) ⟨fun a9 U g mk q => by obtain ⟨y0, y1, yP, yK, yD, yE⟩ := q; exact ⟨y0, y1, yP, va_K.moved (u := U) (U := U.calling g mk a9) (Vm.Alike.refl U.vm) yK, yD, hM.same rfl yE⟩, va_recv (k_left hK) (p_left hP) (ci := 11) (q0 := 0) rfl rfl, fun U hU hW => ⟨rfl, by rw [hU], by rw [hU]; exact p_left hP, va_K.moved hW.alike (k_left hK), (d_left hD).weaken (fun _ _ _ _ => trivial), hM.warm hW hMM⟩⟩ rfl rfl hl.1 rfl (lv_room (Nat.le_of_ble_eq_true rfl)) dL_law_258 ⟨Nat.le_of_ble_eq_true rfl, Nat.le_of_ble_eq_true rfl⟩) hS (fun q _ h => hFc q h) hFc ?_
    intro rx ux tx Hx lx htx hvx hwx hBx hzx hkx hSx
    have hPm := p_keepR hP hD hkx
    have hDm := d_right hD
    have hKm := k_right hK
    clear hP hD hK hS hFc hkx hzx hBx
    refine lv_aload_n hx hb dL_law_261 rfl (lv_at hl 1 rfl) ?_
    refine lv_aload_n hx hb dL_law_262 rfl (lv_at hl 3 rfl) ?_
    refine lv_iload_n hx hb dL_law_263 rfl (lv_at hl 0 rfl) ?_
    refine lv_iconst hx hb dL_law_264 (v := 1) rfl ?_
    refine lv_iadd hx hb dL_law_265 ?_
    refine va_sld hx hb hX hbl hbA hSx (by unfold vp_in; decide) dL_law_266 ?_
    have hFm := pl_free hDm hSx hA
    refine va_calli (va_runV (As := [.int (xs (0 + 1 : Int32).toNatClampNeg)]) (rest := [.int rx]) ⟨hx, hb, hml, hown, hts⟩ (c_m_count0 l D ca2 q2 Hx.size ad u (xs (0 + 1 : Int32).toNatClampNeg) ((hF.1 42 (by decide) (by decide) (by decide)).trans rfl)) (cwV 1 hts glc_X12_count rfl rfl rfl (by decide +kernel) ⟨Nat.le_of_ble_eq_true rfl, Nat.le_of_ble_eq_true rfl⟩) ⟨fun a9 U g mk q => by obtain ⟨y0, y1, yP, yK, yD⟩ := q; exact ⟨y0, y1, yP, va_K.moved (u := U) (U := U.calling g mk a9) (Vm.Alike.refl U.vm) yK, yD⟩, va_recv hKm hPm (ci := 12) (q0 := 0) rfl rfl, fun U hU hW => ⟨rfl, by rw [hU], by rw [hU]; exact hPm, va_K.moved hW.alike hKm, hDm.weaken (fun _ _ _ _ => trivial)⟩⟩ rfl rfl hl.1 rfl (lv_room (Nat.le_of_ble_eq_true rfl)) dL_law_267 ⟨Nat.le_of_ble_eq_true rfl, Nat.le_of_ble_eq_true rfl⟩) hSx (fun q _ h => hFm q h) hFm ?_
    intro rm um tm Hm lm htm hvm hwm hBm hzm hkm hSm
    have heq : rx = rm := by
      rw [hwx, hwm.2, show u.1 35 = 0 from (hF.1 35 (by decide) (by decide) (by decide)).trans rfl, show u.1 42 = 0 from (hF.1 42 (by decide) (by decide) (by decide)).trans rfl, show u.1 63 = 0 from (hF.1 63 (by decide) (by decide) (by decide)).trans rfl]
    refine lv_icmp_eq hx hb dL_law_270 (tgt := 370) rfl (fun h => ?_) (fun h => ?_)
    · exact hfin _ _ _ _ hSm (Nat.le_of_ble_eq_true rfl) (Nat.le_of_ble_eq_true rfl)
    · exact absurd heq h
  by_cases k7 : v = 7
  · refine lv_tableIn (off := 242) (tgt := 275) hx hb dL_law_33 (by rw [k7]; decide) (by rw [k7]; decide) (by rw [k7]; rfl) rfl ?_
    refine lv_aload_n hx hb dL_law_275 rfl (lv_at hl 2 rfl) ?_
    have hFc := pl_free (d_left hD) hS hA
    refine va_calli (va_runV (As := []) (rest := []) ⟨hx, hb, hml, hown, hts⟩ (h_size l D q1 H.size a ca n ) (cwV 0 hts glc_X11_size rfl rfl rfl (by decide +kernel) ⟨Nat.le_of_ble_eq_true rfl, Nat.le_of_ble_eq_true rfl⟩) ⟨fun a9 U g mk q => by obtain ⟨y0, y1, yP, yK, yD, yE⟩ := q; exact ⟨y0, y1, yP, va_K.moved (u := U) (U := U.calling g mk a9) (Vm.Alike.refl U.vm) yK, yD, hM.same rfl yE⟩, va_recv (k_left hK) (p_left hP) (ci := 11) (q0 := 0) rfl rfl, fun U hU hW => ⟨rfl, by rw [hU], by rw [hU]; exact p_left hP, va_K.moved hW.alike (k_left hK), (d_left hD).weaken (fun _ _ _ _ => trivial), hM.warm hW hMM⟩⟩ rfl rfl hl.1 rfl (lv_room (Nat.le_of_ble_eq_true rfl)) dL_law_276 ⟨Nat.le_of_ble_eq_true rfl, Nat.le_of_ble_eq_true rfl⟩) hS (fun q _ h => hFc q h) hFc ?_
    intro rx ux tx Hx lx htx hvx hwx hBx hzx hkx hSx
    have hPm := p_keepR hP hD hkx
    have hDm := d_right hD
    have hKm := k_right hK
    clear hP hD hK hS hFc hkx hzx hBx
    refine lv_aload_n hx hb dL_law_279 rfl (lv_at hl 1 rfl) ?_
    have hFm := pl_free hDm hSx hA
    refine va_calli (va_runV (As := []) (rest := [.int rx]) ⟨hx, hb, hml, hown, hts⟩ (c_m_size l D ca2 q2 Hx.size ad u) (cwV 0 hts glc_X12_size rfl rfl rfl (by decide +kernel) ⟨Nat.le_of_ble_eq_true rfl, Nat.le_of_ble_eq_true rfl⟩) ⟨fun a9 U g mk q => by obtain ⟨y0, y1, yP, yK, yD⟩ := q; exact ⟨y0, y1, yP, va_K.moved (u := U) (U := U.calling g mk a9) (Vm.Alike.refl U.vm) yK, yD⟩, va_recv hKm hPm (ci := 12) (q0 := 0) rfl rfl, fun U hU hW => ⟨rfl, by rw [hU], by rw [hU]; exact hPm, va_K.moved hW.alike hKm, hDm.weaken (fun _ _ _ _ => trivial)⟩⟩ rfl rfl hl.1 rfl (lv_room (Nat.le_of_ble_eq_true rfl)) dL_law_280 ⟨Nat.le_of_ble_eq_true rfl, Nat.le_of_ble_eq_true rfl⟩) hSx (fun q _ h => hFm q h) hFm ?_
    intro rm um tm Hm lm htm hvm hwm hBm hzm hkm hSm
    have heq : rx = rm := by
      rw [hwx, hwm.2]
      exact ((hF.1 16 (by decide) (by decide) (by decide)).trans rfl).symm
    refine lv_icmp_eq hx hb dL_law_283 (tgt := 370) rfl (fun h => ?_) (fun h => ?_)
    · exact hfin _ _ _ _ hSm (Nat.le_of_ble_eq_true rfl) (Nat.le_of_ble_eq_true rfl)
    · exact absurd heq h
  by_cases k8 : v = 8
  · refine lv_tableIn (off := 255) (tgt := 288) hx hb dL_law_33 (by rw [k8]; decide) (by rw [k8]; decide) (by rw [k8]; rfl) rfl ?_
    refine lv_aload_n hx hb dL_law_288 rfl (lv_at hl 2 rfl) ?_
    refine lv_aload_n hx hb dL_law_289 rfl (lv_at hl 3 rfl) ?_
    refine lv_iload_n hx hb dL_law_290 rfl (lv_at hl 0 rfl) ?_
    refine lv_iconst hx hb dL_law_291 (v := 1) rfl ?_
    refine lv_iadd hx hb dL_law_292 ?_
    refine va_sld hx hb hX hbl hbA hS (by unfold vp_in; decide) dL_law_293 ?_
    have hFc := pl_free (d_left hD) hS hA
    refine va_calli (va_runV (As := [.int (xs (0 + 1 : Int32).toNatClampNeg)]) (rest := []) ⟨hx, hb, hml, hown, hts⟩ (h_letter l D q1 H.size a ca n (xs (0 + 1 : Int32).toNatClampNeg)) (cwV 1 hts glc_X11_letter rfl rfl rfl (by decide +kernel) ⟨Nat.le_of_ble_eq_true rfl, Nat.le_of_ble_eq_true rfl⟩) ⟨fun a9 U g mk q => by obtain ⟨y0, y1, yP, yK, yD, yE⟩ := q; exact ⟨y0, y1, yP, va_K.moved (u := U) (U := U.calling g mk a9) (Vm.Alike.refl U.vm) yK, yD, hM.same rfl yE⟩, va_recv (k_left hK) (p_left hP) (ci := 11) (q0 := 0) rfl rfl, fun U hU hW => ⟨rfl, by rw [hU], by rw [hU]; exact p_left hP, va_K.moved hW.alike (k_left hK), (d_left hD).weaken (fun _ _ _ _ => trivial), hM.warm hW hMM⟩⟩ rfl rfl hl.1 rfl (lv_room (Nat.le_of_ble_eq_true rfl)) dL_law_294 ⟨Nat.le_of_ble_eq_true rfl, Nat.le_of_ble_eq_true rfl⟩) hS (fun q _ h => hFc q h) hFc ?_
    intro rx ux tx Hx lx htx hvx hwx hBx hzx hkx hSx
    have hPm := p_keepR hP hD hkx
    have hDm := d_right hD
    have hKm := k_right hK
    clear hP hD hK hS hFc hkx hzx hBx
    refine lv_aload_n hx hb dL_law_297 rfl (lv_at hl 1 rfl) ?_
    refine lv_aload_n hx hb dL_law_298 rfl (lv_at hl 3 rfl) ?_
    refine lv_iload_n hx hb dL_law_299 rfl (lv_at hl 0 rfl) ?_
    refine lv_iconst hx hb dL_law_300 (v := 1) rfl ?_
    refine lv_iadd hx hb dL_law_301 ?_
    refine va_sld hx hb hX hbl hbA hSx (by unfold vp_in; decide) dL_law_302 ?_
    have hFm := pl_free hDm hSx hA
    refine va_calli (va_runV (As := [.int (xs (0 + 1 : Int32).toNatClampNeg)]) (rest := [.int rx]) ⟨hx, hb, hml, hown, hts⟩ (c_m_letter l D ca2 q2 Hx.size ad u (xs (0 + 1 : Int32).toNatClampNeg) 0 ((hF.1 16 (by decide) (by decide) (by decide)).trans rfl) (by decide)) (cwV 1 hts glc_X12_letter rfl rfl rfl (by decide +kernel) ⟨Nat.le_of_ble_eq_true rfl, Nat.le_of_ble_eq_true rfl⟩) ⟨fun a9 U g mk q => by obtain ⟨y0, y1, yP, yK, yD⟩ := q; exact ⟨y0, y1, yP, va_K.moved (u := U) (U := U.calling g mk a9) (Vm.Alike.refl U.vm) yK, yD⟩, va_recv hKm hPm (ci := 12) (q0 := 0) rfl rfl, fun U hU hW => ⟨rfl, by rw [hU], by rw [hU]; exact hPm, va_K.moved hW.alike hKm, hDm.weaken (fun _ _ _ _ => trivial)⟩⟩ rfl rfl hl.1 rfl (lv_room (Nat.le_of_ble_eq_true rfl)) dL_law_303 ⟨Nat.le_of_ble_eq_true rfl, Nat.le_of_ble_eq_true rfl⟩) hSx (fun q _ h => hFm q h) hFm ?_
    intro rm um tm Hm lm htm hvm hwm hBm hzm hkm hSm
    have heq : rx = rm := by
      rw [hwx, hwm.2, show u.1 16 = 0 from (hF.1 16 (by decide) (by decide) (by decide)).trans rfl, if_neg (fun h => absurd h.2 (Int32.not_lt.mpr h.1))]
    refine lv_icmp_eq hx hb dL_law_306 (tgt := 370) rfl (fun h => ?_) (fun h => ?_)
    · exact hfin _ _ _ _ hSm (Nat.le_of_ble_eq_true rfl) (Nat.le_of_ble_eq_true rfl)
    · exact absurd heq h
  by_cases k9 : v = 9
  · refine lv_tableIn (off := 278) (tgt := 311) hx hb dL_law_33 (by rw [k9]; decide) (by rw [k9]; decide) (by rw [k9]; rfl) rfl ?_
    refine lv_aload_n hx hb dL_law_311 rfl (lv_at hl 2 rfl) ?_
    refine lv_aload_n hx hb dL_law_312 rfl (lv_at hl 3 rfl) ?_
    refine lv_iload_n hx hb dL_law_313 rfl (lv_at hl 0 rfl) ?_
    refine lv_iconst hx hb dL_law_314 (v := 1) rfl ?_
    refine lv_iadd hx hb dL_law_315 ?_
    refine va_sld hx hb hX hbl hbA hS (by unfold vp_in; decide) dL_law_316 ?_
    have hFc := pl_free (d_left hD) hS hA
    refine va_calli (va_runV (As := [.int (xs (0 + 1 : Int32).toNatClampNeg)]) (rest := []) ⟨hx, hb, hml, hown, hts⟩ (h_taken l D q1 H.size a ca n (xs (0 + 1 : Int32).toNatClampNeg)) (cwV 1 hts glc_X11_taken rfl rfl rfl (by decide +kernel) ⟨Nat.le_of_ble_eq_true rfl, Nat.le_of_ble_eq_true rfl⟩) ⟨fun a9 U g mk q => by obtain ⟨y0, y1, yP, yK, yD, yE⟩ := q; exact ⟨y0, y1, yP, va_K.moved (u := U) (U := U.calling g mk a9) (Vm.Alike.refl U.vm) yK, yD, hM.same rfl yE⟩, va_recv (k_left hK) (p_left hP) (ci := 11) (q0 := 0) rfl rfl, fun U hU hW => ⟨rfl, by rw [hU], by rw [hU]; exact p_left hP, va_K.moved hW.alike (k_left hK), (d_left hD).weaken (fun _ _ _ _ => trivial), hM.warm hW hMM⟩⟩ rfl rfl hl.1 rfl (lv_room (Nat.le_of_ble_eq_true rfl)) dL_law_317 ⟨Nat.le_of_ble_eq_true rfl, Nat.le_of_ble_eq_true rfl⟩) hS (fun q _ h => hFc q h) hFc ?_
    intro rx ux tx Hx lx htx hvx hwx hBx hzx hkx hSx
    have hPm := p_keepR hP hD hkx
    have hDm := d_right hD
    have hKm := k_right hK
    clear hP hD hK hS hFc hkx hzx hBx
    refine lv_aload_n hx hb dL_law_320 rfl (lv_at hl 1 rfl) ?_
    refine lv_aload_n hx hb dL_law_321 rfl (lv_at hl 3 rfl) ?_
    refine lv_iload_n hx hb dL_law_322 rfl (lv_at hl 0 rfl) ?_
    refine lv_iconst hx hb dL_law_323 (v := 1) rfl ?_
    refine lv_iadd hx hb dL_law_324 ?_
    refine va_sld hx hb hX hbl hbA hSx (by unfold vp_in; decide) dL_law_325 ?_
    have hFm := pl_free hDm hSx hA
    refine va_calli (va_runV (As := [.int (xs (0 + 1 : Int32).toNatClampNeg)]) (rest := [.int rx]) ⟨hx, hb, hml, hown, hts⟩ (c_m_taken l D ca2 q2 Hx.size ad u (xs (0 + 1 : Int32).toNatClampNeg) 0 ((hF.1 54 (by decide) (by decide) (by decide)).trans rfl) (by decide)) (cwV 1 hts glc_X12_taken rfl rfl rfl (by decide +kernel) ⟨Nat.le_of_ble_eq_true rfl, Nat.le_of_ble_eq_true rfl⟩) ⟨fun a9 U g mk q => by obtain ⟨y0, y1, yP, yK, yD⟩ := q; exact ⟨y0, y1, yP, va_K.moved (u := U) (U := U.calling g mk a9) (Vm.Alike.refl U.vm) yK, yD⟩, va_recv hKm hPm (ci := 12) (q0 := 0) rfl rfl, fun U hU hW => ⟨rfl, by rw [hU], by rw [hU]; exact hPm, va_K.moved hW.alike hKm, hDm.weaken (fun _ _ _ _ => trivial)⟩⟩ rfl rfl hl.1 rfl (lv_room (Nat.le_of_ble_eq_true rfl)) dL_law_326 ⟨Nat.le_of_ble_eq_true rfl, Nat.le_of_ble_eq_true rfl⟩) hSx (fun q _ h => hFm q h) hFm ?_
    intro rm um tm Hm lm htm hvm hwm hBm hzm hkm hSm
    have heq : rx = rm := by
      rw [hwx, hwm.2, show u.1 54 = 0 from (hF.1 54 (by decide) (by decide) (by decide)).trans rfl, if_neg (fun h => absurd h.2 (Int32.not_lt.mpr h.1))]
    refine lv_icmp_eq hx hb dL_law_329 (tgt := 370) rfl (fun h => ?_) (fun h => ?_)
    · exact hfin _ _ _ _ hSm (Nat.le_of_ble_eq_true rfl) (Nat.le_of_ble_eq_true rfl)
    · exact absurd heq h
  by_cases k10 : v = 10
  · refine lv_tableIn (off := 301) (tgt := 334) hx hb dL_law_33 (by rw [k10]; decide) (by rw [k10]; decide) (by rw [k10]; rfl) rfl ?_
    refine lv_aload_n hx hb dL_law_334 rfl (lv_at hl 2 rfl) ?_
    refine lv_aload_n hx hb dL_law_335 rfl (lv_at hl 3 rfl) ?_
    refine lv_iload_n hx hb dL_law_336 rfl (lv_at hl 0 rfl) ?_
    refine lv_iconst hx hb dL_law_337 (v := 1) rfl ?_
    refine lv_iadd hx hb dL_law_338 ?_
    refine va_sld hx hb hX hbl hbA hS (by unfold vp_in; decide) dL_law_339 ?_
    have hFc := pl_free (d_left hD) hS hA
    refine va_calli (va_runV (As := [.int (xs (0 + 1 : Int32).toNatClampNeg)]) (rest := []) ⟨hx, hb, hml, hown, hts⟩ (h_tell l D q1 H.size a ca n (xs (0 + 1 : Int32).toNatClampNeg)) (cwV 1 hts glc_X11_tell rfl rfl rfl (by decide +kernel) ⟨Nat.le_of_ble_eq_true rfl, Nat.le_of_ble_eq_true rfl⟩) ⟨fun a9 U g mk q => by obtain ⟨y0, y1, yP, yK, yD, yE⟩ := q; exact ⟨y0, y1, yP, va_K.moved (u := U) (U := U.calling g mk a9) (Vm.Alike.refl U.vm) yK, yD, hM.same rfl yE⟩, va_recv (k_left hK) (p_left hP) (ci := 11) (q0 := 0) rfl rfl, fun U hU hW => ⟨rfl, by rw [hU], by rw [hU]; exact p_left hP, va_K.moved hW.alike (k_left hK), (d_left hD).weaken (fun _ _ _ _ => trivial), hM.warm hW hMM⟩⟩ rfl rfl hl.1 rfl (lv_room (Nat.le_of_ble_eq_true rfl)) dL_law_340 ⟨Nat.le_of_ble_eq_true rfl, Nat.le_of_ble_eq_true rfl⟩) hS (fun q _ h => hFc q h) hFc ?_
    intro rx ux tx Hx lx htx hvx hwx hBx hzx hkx hSx
    have hPm := p_keepR hP hD hkx
    have hDm := d_right hD
    have hKm := k_right hK
    clear hP hD hK hS hFc hkx hzx hBx
    refine lv_aload_n hx hb dL_law_343 rfl (lv_at hl 1 rfl) ?_
    refine lv_aload_n hx hb dL_law_344 rfl (lv_at hl 3 rfl) ?_
    refine lv_iload_n hx hb dL_law_345 rfl (lv_at hl 0 rfl) ?_
    refine lv_iconst hx hb dL_law_346 (v := 1) rfl ?_
    refine lv_iadd hx hb dL_law_347 ?_
    refine va_sld hx hb hX hbl hbA hSx (by unfold vp_in; decide) dL_law_348 ?_
    have hFm := pl_free hDm hSx hA
    refine va_calli (va_runV (As := [.int (xs (0 + 1 : Int32).toNatClampNeg)]) (rest := [.int rx]) ⟨hx, hb, hml, hown, hts⟩ (c_m_tell0 l D ca2 q2 Hx.size ad u (xs (0 + 1 : Int32).toNatClampNeg) ((hF.1 54 (by decide) (by decide) (by decide)).trans rfl)) (cwV 1 hts glc_X12_tell rfl rfl rfl (by decide +kernel) ⟨Nat.le_of_ble_eq_true rfl, Nat.le_of_ble_eq_true rfl⟩) ⟨fun a9 U g mk q => by obtain ⟨y0, y1, yP, yK, yD⟩ := q; exact ⟨y0, y1, yP, va_K.moved (u := U) (U := U.calling g mk a9) (Vm.Alike.refl U.vm) yK, yD⟩, va_recv hKm hPm (ci := 12) (q0 := 0) rfl rfl, fun U hU hW => ⟨rfl, by rw [hU], by rw [hU]; exact hPm, va_K.moved hW.alike hKm, hDm.weaken (fun _ _ _ _ => trivial)⟩⟩ rfl rfl hl.1 rfl (lv_room (Nat.le_of_ble_eq_true rfl)) dL_law_349 ⟨Nat.le_of_ble_eq_true rfl, Nat.le_of_ble_eq_true rfl⟩) hSx (fun q _ h => hFm q h) hFm ?_
    intro rm um tm Hm lm htm hvm hwm hBm hzm hkm hSm
    have heq : rx = rm := by
      rw [hwx, hwm.2]
    refine lv_icmp_eq hx hb dL_law_352 (tgt := 370) rfl (fun h => ?_) (fun h => ?_)
    · exact hfin _ _ _ _ hSm (Nat.le_of_ble_eq_true rfl) (Nat.le_of_ble_eq_true rfl)
    · exact absurd heq h
  by_cases k11 : v = 11
  · refine lv_tableIn (off := 324) (tgt := 357) hx hb dL_law_33 (by rw [k11]; decide) (by rw [k11]; decide) (by rw [k11]; rfl) rfl ?_
    refine lv_aload_n hx hb dL_law_357 rfl (lv_at hl 2 rfl) ?_
    have hFc := pl_free (d_left hD) hS hA
    refine va_calli (va_runV (As := []) (rest := []) ⟨hx, hb, hml, hown, hts⟩ (h_recheck l D q1 H.size a ca n ) (cwV 0 hts glc_X11_recheck rfl rfl rfl (by decide +kernel) ⟨Nat.le_of_ble_eq_true rfl, Nat.le_of_ble_eq_true rfl⟩) ⟨fun a9 U g mk q => by obtain ⟨y0, y1, yP, yK, yD, yE⟩ := q; exact ⟨y0, y1, yP, va_K.moved (u := U) (U := U.calling g mk a9) (Vm.Alike.refl U.vm) yK, yD, hM.same rfl yE⟩, va_recv (k_left hK) (p_left hP) (ci := 11) (q0 := 0) rfl rfl, fun U hU hW => ⟨rfl, by rw [hU], by rw [hU]; exact p_left hP, va_K.moved hW.alike (k_left hK), (d_left hD).weaken (fun _ _ _ _ => trivial), hM.warm hW hMM⟩⟩ rfl rfl hl.1 rfl (lv_room (Nat.le_of_ble_eq_true rfl)) dL_law_358 ⟨Nat.le_of_ble_eq_true rfl, Nat.le_of_ble_eq_true rfl⟩) hS (fun q _ h => hFc q h) hFc ?_
    intro rx ux tx Hx lx htx hvx hwx hBx hzx hkx hSx
    have hPm := p_keepR hP hD hkx
    have hDm := d_right hD
    have hKm := k_right hK
    clear hP hD hK hS hFc hkx hzx hBx
    refine lv_aload_n hx hb dL_law_361 rfl (lv_at hl 1 rfl) ?_
    have hFm := pl_free hDm hSx hA
    refine va_calli (va_runV (As := []) (rest := [.int rx]) ⟨hx, hb, hml, hown, hts⟩ (c_m_recheck l D ca2 q2 Hx.size ad u (Or.inl ((hF.1 62 (by decide) (by decide) (by decide)).trans rfl))) (cwV 0 hts glc_X12_recheck rfl rfl rfl (by decide +kernel) ⟨Nat.le_of_ble_eq_true rfl, Nat.le_of_ble_eq_true rfl⟩) ⟨fun a9 U g mk q => by obtain ⟨y0, y1, yP, yK, yD⟩ := q; exact ⟨y0, y1, yP, va_K.moved (u := U) (U := U.calling g mk a9) (Vm.Alike.refl U.vm) yK, yD⟩, va_recv hKm hPm (ci := 12) (q0 := 0) rfl rfl, fun U hU hW => ⟨rfl, by rw [hU], by rw [hU]; exact hPm, va_K.moved hW.alike hKm, hDm.weaken (fun _ _ _ _ => trivial)⟩⟩ rfl rfl hl.1 rfl (lv_room (Nat.le_of_ble_eq_true rfl)) dL_law_362 ⟨Nat.le_of_ble_eq_true rfl, Nat.le_of_ble_eq_true rfl⟩) hSx (fun q _ h => hFm q h) hFm ?_
    intro rm um tm Hm lm htm hvm hwm hBm hzm hkm hSm
    have heq : rx = rm := by
      rw [hwx, hwm.2]
      exact ((hF.1 62 (by decide) (by decide) (by decide)).trans rfl).symm
    refine lv_icmp_eq hx hb dL_law_365 (tgt := 370) rfl (fun h => ?_) (fun h => ?_)
    · exact hfin _ _ _ _ hSm (Nat.le_of_ble_eq_true rfl) (Nat.le_of_ble_eq_true rfl)
    · exact absurd heq h
  refine lv_tableOut (tgt := 370) hx hb dL_law_33 (t_out (hi := 11) 0 (fun k hk => by rcases (show k = 0 ∨ k = 1 ∨ k = 2 ∨ k = 3 ∨ k = 4 ∨ k = 5 ∨ k = 6 ∨ k = 7 ∨ k = 8 ∨ k = 9 ∨ k = 10 ∨ k = 11 by omega) with rfl | rfl | rfl | rfl | rfl | rfl | rfl | rfl | rfl | rfl | rfl | rfl <;> assumption) (by decide) rfl) rfl ?_
  exact hfin _ _ _ _ hS (Nat.le_of_ble_eq_true rfl) (Nat.le_of_ble_eq_true rfl)
