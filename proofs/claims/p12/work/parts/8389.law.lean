theorem mF0_ok : ∀ j, j < 149 → defaultValue (tyX12 j) = vp_V mF0 j := by decide +kernel
/-- the classes of rows -/
theorem ca_known {args : Array Value} {s : State} (hi : (Cond.arrayClass .int).before args s = true) (hz : (Cond.arrayClass .boolean).before args s = true) (hc : (Cond.arrayClass .char).before args s = true) (hj : (Cond.arrayClass .long).before args s = true) (ha : pAI s) (ho : va_AO RX1 s) : ∃ ca : Nat → ClassId, ∀ (k : Nat) (q : ClassId × FieldType), (yTy ca)[k]? = some q → ArrOfT s q.1 q.2 ∧ va_RA s q.1 q.2 := by
  obtain ⟨c0, k0, d0, i1, i2, i3⟩ := Cond.arrayClass_spec hi
  obtain ⟨c1, k1, d1, z1, z2, z3⟩ := Cond.arrayClass_spec hz
  obtain ⟨c2, k2, d2, h1, h2, h3⟩ := Cond.arrayClass_spec hc
  obtain ⟨c3, k3, d3, j1, j2, j3⟩ := Cond.arrayClass_spec hj
  obtain ⟨comp, c4, k4, a1, a2, a3, a4⟩ := ha
  obtain ⟨cm, c5, k5, o1, -, o3, o4, o5⟩ := Cond.arrayOver_spec ho
  refine ⟨fun k => ([c0, c1, c2, c3, c4, c5] : List ClassId).getD k c0, ?_⟩
  have g0 : ArrOfT s c0 .int ∧ va_RA s c0 .int := ⟨fun N z => ⟨(fun k h => by cases h), k0, i2, d0, i3⟩, by simp only [va_RA]; exact i1⟩
  have g1 : ArrOfT s c1 .boolean ∧ va_RA s c1 .boolean := ⟨fun N z => ⟨(fun k h => by cases h), k1, z2, d1, z3⟩, by simp only [va_RA]; exact z1⟩
  have g2 : ArrOfT s c2 .char ∧ va_RA s c2 .char := ⟨fun N z => ⟨(fun k h => by cases h), k2, h2, d2, h3⟩, by simp only [va_RA]; exact h1⟩
  have g3 : ArrOfT s c3 .long ∧ va_RA s c3 .long := ⟨fun N z => ⟨(fun k h => by cases h), k3, j2, d3, j3⟩, by simp only [va_RA]; exact j1⟩
  have g4 : ArrOfT s c4 (.array .int) ∧ va_RA s c4 (.array .int) := ⟨fun N z => ⟨(fun k h => by cases h), k4, a2, comp, a3⟩, by simp only [va_RA]; exact a4⟩
  have g5 : ArrOfT s c5 (.object RX1) ∧ va_RA s c5 (.object RX1) := ⟨fun N z => ⟨(fun k h => by cases h), k5, o3, cm, o4⟩, k5, cm, o3, o4, o1, o5⟩
  intro k q hq
  match k, hq with
  | 0, hq => cases hq; exact g0
  | 1, hq => cases hq; exact g1
  | 2, hq => cases hq; exact g2
  | 3, hq => cases hq; exact g3
  | 4, hq => cases hq; exact g4
  | 5, hq => cases hq; exact g5
  | k + 6, hq => simp [yTy] at hq
set_option maxHeartbeats 16000000 in
set_option maxRecDepth 100000 in
theorem whole_start {p : Program} {e : Env} {s : State} {m : MethodId} {below : List Frame} {meth : Method} {c : Code} (l : Launch) {b L : Nat} {xs : Nat → Int32} (hL : L ≤ 3072) (C0 : lw_At p s m meth c b L xs) : W p l e room_1 s m #[Value.ref b] below meth c s.heap [] 0 0 (lw_Z below #[Value.ref b] s) (entryFrame m ([Value.ref b] : List Value).toArray 4) := by
  haveI dq : DecidableEq Ob := fun a b => Classical.propDecidable (a = b)
  obtain ⟨hx, hb, hr, hml, hown, hts, hX, hbl, hlocks, hgv⟩ := id C0
  have hown : s.vm.findClass "ProofHouseLaw" = some m.cls := hown
  have F : CallFix p m c code 4 s #[Value.ref b] lw_tbl "ProofHouseLaw" := ⟨hx, hb, hml, hown, hts⟩
  obtain ⟨A, hAd⟩ : ∃ A : Nat → Prop, A = fun q => s.heap.size ≤ q := ⟨_, rfl⟩
  have hA : ∀ q : Nat, s.heap.size ≤ q → A q := by rw [hAd]; exact fun _ h => h
  have hAr : ∀ q : Nat, A q → s.heap.size ≤ q := by rw [hAd]; exact fun _ h => h
  have hAn : ∀ q : Nat, q < s.heap.size → ¬ A q := by rw [hAd]; exact fun _ h => Nat.not_le.mpr h
  have hbA : ¬ A b := hAn b hbl
  clear hAd
  obtain ⟨c0, iS0, hKn0⟩ := u_known (C := RX0) (T := TX0) (N := 21) (n := 21) hts (fun w h => (gl_wsX00 w h).1) (hts _ lq_n0)
  obtain ⟨c1, iS1, hKn1⟩ := u_known (C := RX1) (T := TX1) (N := 4) (n := 4) hts (fun w h => (gl_wsX10 w h).1) (hts _ lq_n1)
  obtain ⟨c2, iS2, hKn2⟩ := u_known (C := RX2) (T := TX2) (N := 15) (n := 15) hts (fun w h => (gl_wsX20 w h).1) (hts _ lq_n2)
  obtain ⟨c3, iS3, hKn3⟩ := u_known (C := RX3) (T := TX3) (N := 11) (n := 11) hts (fun w h => (gl_wsX30 w h).1) (hts _ lq_n3)
  obtain ⟨c4, iS4, hKn4⟩ := u_known (C := RX4) (T := TX4) (N := 11) (n := 11) hts (fun w h => (gl_wsX40 w h).1) (hts _ lq_n4)
  obtain ⟨c5, iS5, hKn5⟩ := u_known (C := RX5) (T := TX5) (N := 11) (n := 11) hts (fun w h => (gl_wsX50 w h).1) (hts _ lq_n5)
  obtain ⟨c6, iS6, hKn6⟩ := u_known (C := RX6) (T := TX6) (N := 14) (n := 14) hts (fun w h => (gl_wsX60 w h).1) (hts _ lq_n6)
  obtain ⟨c7, iS7, hKn7⟩ := u_known (C := RX7) (T := TX7) (N := 9) (n := 9) hts (fun w h => (gl_wsX70 w h).1) (hts _ lq_n7)
  obtain ⟨c8, iS8, hKn8⟩ := u_known (C := RX8) (T := TX8) (N := 11) (n := 11) hts (fun w h => (gl_wsX80 w h).1) (hts _ lq_n8)
  obtain ⟨c9, iS9, hKn9⟩ := u_known (C := RX9) (T := TX9) (N := 4) (n := 4) hts (fun w h => (gl_wsX90 w h).1) (hts _ lq_n9)
  obtain ⟨c10, iS10, hKn10⟩ := u_known (C := RX10) (T := TX10) (N := 16) (n := 16) hts (fun w h => (gl_wsX100 w h).1) (hts _ lq_n10)
  obtain ⟨c11, iS11, hKn11⟩ := u_known (C := RX11) (T := TX11) (N := 21) (n := 21) hts (fun w h => (gl_wsX110 w h).1) (hts _ lq_n11)
  obtain ⟨c12, iS12, hKn12⟩ := u_known (C := RX12) (T := TX12) (N := 149) (n := 149) hts (fun w h => (gl_wsX120 w h).1) (hts _ lq_n12)
  obtain ⟨D, hKc⟩ : ∃ D : va_G, ∀ (k : Nat) (q : vw_C), vwCl[k]? = some q → u_Kn s q.1 q.2.1 q.2.2 (D.1 k) (D.2 k) := by
    refine ⟨(fun k => ([c0, c1, c2, c3, c4, c5, c6, c7, c8, c9, c10, c11, c12] : List ClassId).getD k c0, fun k => ([iS0, iS1, iS2, iS3, iS4, iS5, iS6, iS7, iS8, iS9, iS10, iS11, iS12] : List (Nat → Nat)).getD k iS0), ?_⟩
    intro k q hq
    match k, hq with
    | 0, hq => cases hq; exact hKn0
    | 1, hq => cases hq; exact hKn1
    | 2, hq => cases hq; exact hKn2
    | 3, hq => cases hq; exact hKn3
    | 4, hq => cases hq; exact hKn4
    | 5, hq => cases hq; exact hKn5
    | 6, hq => cases hq; exact hKn6
    | 7, hq => cases hq; exact hKn7
    | 8, hq => cases hq; exact hKn8
    | 9, hq => cases hq; exact hKn9
    | 10, hq => cases hq; exact hKn10
    | 11, hq => cases hq; exact hKn11
    | 12, hq => cases hq; exact hKn12
    | k + 13, hq => simp [vwCl] at hq
  clear hKn0 hKn1 hKn2 hKn3 hKn4 hKn5 hKn6 hKn7 hKn8 hKn9 hKn10 hKn11 hKn12
  have hNN : hN s := ⟨va_AO.of (hts _ lq_ao), mn_over (hts _ lq_ai), va_Nw.of rfl (hts _ lq_l4), va_Nw.of rfl (hts _ lq_l3), va_Nw.of rfl (hts _ lq_f20)⟩
  obtain ⟨ca, hca⟩ := ca_known (hts _ lq_a_int) (hts _ lq_a_boolean) (hts _ lq_a_char) (hts _ lq_a_long) hNN.2.1 hNN.1
  have hS : va_S A s.heap s.heap [] := va_S.rf
  have hK : va_K D vwCl (yTy ca) s := ⟨hKc, hca⟩
  have hK0 : va_K D vwCl [] s := ⟨hKc, fun k q h => by simp at h⟩
  have hP : va_P D vwCl [] s.heap := p_nil
  have hD : va_D A [] := d_nil
  obtain ⟨adK, adV, z, hSS, hSt, hE⟩ := y_start hts hgv hAn
  have hl := lv_entry ([.ref b]) (n := 4) (Nat.le_of_ble_eq_true rfl)
  rw [lg_entry_eq]
  generalize (lg_sl ([.ref b]) ++ List.replicate (4 - (lg_sl ([.ref b])).length) Slot.unset).toArray = ls at hl ⊢
  have hl : lv_has ls 4 [(0, .ref b)] := hl
  refine va_new (ci := 11) (fs := [.null, .null, .null, .null, .null, .null, .null, .null, .null, .null, .null, .int 0, .null, .int 0, .int 0, .int 0, .int 0, .int 0, .int 0, .int 0, .int 0]) (C := RX11) (T := TX11) (N := 21) hx hb hts (fun w h => (gl_wsX110 w h).1) tyX11 tyX11_ok hown (hts _ lq_c11) (hts _ lq_n11) (hts _ lq_z11) hK hP hD hS hA rfl (fun j hj => by rcases (show j = 0 ∨ j = 1 ∨ j = 2 ∨ j = 3 ∨ j = 4 ∨ j = 5 ∨ j = 6 ∨ j = 7 ∨ j = 8 ∨ j = 9 ∨ j = 10 ∨ j = 11 ∨ j = 12 ∨ j = 13 ∨ j = 14 ∨ j = 15 ∨ j = 16 ∨ j = 17 ∨ j = 18 ∨ j = 19 ∨ j = 20 by omega) with rfl | rfl | rfl | rfl | rfl | rfl | rfl | rfl | rfl | rfl | rfl | rfl | rfl | rfl | rfl | rfl | rfl | rfl | rfl | rfl | rfl <;> rfl) (Nat.le_of_ble_eq_true rfl) (Nat.le_of_ble_eq_true rfl) dL_law_0 ?_
  clear hP hD hS
  intro q1 H hP hD hS
  have hP : va_P D vwCl [(q1, .inr (11, [.null, .null, .null, .null, .null, .null, .null, .null, .null, .null, .null, .int 0, .null, .int 0, .int 0, .int 0, .int 0, .int 0, .int 0, .int 0, .int 0]))] H := hP
  have hD : va_D A [(q1, .inr (11, [.null, .null, .null, .null, .null, .null, .null, .null, .null, .null, .null, .int 0, .null, .int 0, .int 0, .int 0, .int 0, .int 0, .int 0, .int 0, .int 0]))] := hD
  refine lv_dup hx hb dL_law_3 rfl ?_
  have hFc := pl_free hD hS hA
  refine va_callv (va_runI (As := []) (rest := [.ref q1]) F (k_X11_init l D ca q1 H.size adK adV) (cwI 0 hts gl_wsX11_init rfl rfl rfl (hts _ lq_z11) (hts _ lq_m11) (hts _ lq_i11) rfl (by decide +kernel) ⟨Nat.le_of_ble_eq_true rfl, Nat.le_of_ble_eq_true rfl⟩) ⟨fun a9 U g mk q => by obtain ⟨y0, y1, yP, yK, yD, yN, yR, yS⟩ := q; exact ⟨y0, y1, yP, va_K.moved (u := U) (U := U.calling g mk a9) (Vm.Alike.refl U.vm) yK, yD, hN.same rfl yN, hStr.same rfl yR, sS.moved (u := U) (U := U.calling g mk a9) (Vm.Alike.refl U.vm) yS⟩, fun U hU hW => ⟨rfl, by rw [hU], by rw [hU]; exact hP, va_K.moved hW.alike hK, hD.weaken (fun _ _ _ _ => trivial), hN.warm hW hNN, hStr.warm hW hSt, by rw [hU]; exact sS.moved hW.alike ((hSS.kept hS.2.1).narrow hFc)⟩⟩ rfl rfl hl.1 rfl (lv_room (Nat.le_of_ble_eq_true rfl)) dL_law_4 ⟨Nat.le_of_ble_eq_true rfl, Nat.le_of_ble_eq_true rfl⟩) hS (fun q _ h => hFc q h) hFc ?_
  intro u1 t1 H1 lo1 ht1 hv1 hn hB1 hz1 hk1 hS1
  obtain ⟨hP1, -, hD1⟩ := hB1
  rw [ht1] at hP1
  replace hP := yCl_P (z := z) hn.1 hP1
  replace hD := d_perm (hD1.weaken (fun _ _ _ h => hFc _ h)) (yCl_p ca q1 u1 z (yU0 u1.2.1.2))
  replace hS := hS1
  have hJ := yU0_J hn.1 hn.2
  have hC : CfN (yU0 u1.2.1.2) Sp.St0 44 := ⟨yU0_C hn.1 hn.2, rfl, fun z => absurd rfl z, by have : (yU0 u1.2.1.2).1 29 = 44 := rfl; omega⟩
  have hR := yU0_R u1.2.1.2
  have hE2 : yE (yAd q1 u1 z) A s s.heap := hE
  have h09 : yAd q1 u1 z 0 9 = q1 := rfl
  have v43 : (yU0 u1.2.1.2).1 43 = 1000 := rfl
  have v42 : (yU0 u1.2.1.2).1 42 = 0 := rfl
  clear hP1 hD1 hS1 hFc hz1 hk1 ht1 hv1 hn hE
  generalize yU0 u1.2.1.2 = v at hP hD hJ hR hC v43 v42
  generalize yAd q1 u1 z = ad at hP hD hE2 h09
  refine lv_astore_n hx hb dL_law_7 rfl hl (by decide) rfl (fun ls hl => ?_)
  have hl : lv_has ls 4 [(1, .ref q1), (0, .ref b)] := hl
  refine va_new (ci := 12) (fs := mF0) (C := RX12) (T := TX12) (N := 149) hx hb hts (fun w h => (gl_wsX120 w h).1) tyX12 tyX12_ok hown (hts _ lq_c12) (hts _ lq_n12) (hts _ lq_z12) hK hP hD hS hA rfl mF0_ok (Nat.le_of_ble_eq_true rfl) (Nat.le_of_ble_eq_true rfl) dL_law_8 ?_
  clear hP hD hS
  intro q2 H hP hD hS
  refine lv_dup hx hb dL_law_11 rfl ?_
  have hFc := pl_free (d_right hD) hS hA
  refine va_callv (va_runI (As := []) (rest := [.ref q2]) F (c_m_init l D q2 H.size) (cwI 0 hts gl_wsZ rfl rfl rfl (hts _ lq_z12) (hts _ lq_m12) (hts _ lq_i12) rfl (by decide +kernel) ⟨Nat.le_of_ble_eq_true rfl, Nat.le_of_ble_eq_true rfl⟩) ⟨fun a9 U g mk q => by obtain ⟨y0, y1, yP, yK, yD⟩ := q; exact ⟨y0, y1, yP, va_K.moved (u := U) (U := U.calling g mk a9) (Vm.Alike.refl U.vm) yK, yD⟩, fun U hU hW => ⟨rfl, by rw [hU], by rw [hU]; exact p_right hP, va_K.moved hW.alike hK0, (d_right hD).weaken (fun _ _ _ _ => trivial)⟩⟩ rfl rfl hl.1 rfl (lv_room (Nat.le_of_ble_eq_true rfl)) dL_law_12 ⟨Nat.le_of_ble_eq_true rfl, Nat.le_of_ble_eq_true rfl⟩) hS (fun q _ h => hFc q h) hFc ?_
  intro u2 t2 H2 lo2 ht2 hv2 hw2 hB2 hz2 hk2 hS2
  obtain ⟨ad2, ca2, w⟩ := u2
  obtain ⟨⟨hP2, hK2, hD2⟩, hR2⟩ := hB2
  rw [ht2] at hP2
  dsimp only at hw2 hP2 hK2 hD2 hR2
  obtain ⟨hP9, hD9⟩ := p_join hP hD hk2 hFc hP2 hD2
  obtain ⟨hI, w59, w14⟩ := hw2.hi
  have hRf := sn7_r hw2
  have W0 : LWd D ca ad ca2 q2 ad2 A s H2 lo2 v w := ⟨hP9, hD9, hS2, hR, hR2, hK, va_K.moved hv2.symm hK2, hE2, hA⟩
  refine lv_astore_n hx hb dL_law_15 rfl hl (by decide) rfl (fun ls hl => ?_)
  refine lv_iconst hx hb dL_law_16 (v := 0) rfl ?_
  refine lv_istore_n hx hb dL_law_17 rfl hl (by decide) rfl (fun ls hl => ?_)
  rw [← h09] at hl
  have hl : lv_has ls 4 [(3, .int (nI (6 * 0))), (2, .ref q2), (1, .ref (ad 0 9)), (0, .ref b)] := hl
  exact law_at F hr hlocks hX hbl hbA hAr (Nat.le_of_ble_eq_true rfl) (Nat.le_of_ble_eq_true rfl) hL (L + 1) 0 (by omega) (by omega) H2 lo2 ls v w Sp.St0 hJ hI (by omega) (by omega) hC hRf W0 hl
