theorem gh_same {w v : iST} {f n : Int} (hF : Fx fZ w v) (hL : v.2.2 = w.2.2) : ExtT (gh f n w) (gh f n v) := ExtT.same (fun k hk => ⟨(gh_t k hk).1.trans ((hF k (fZ_t k hk)).1.trans (gh_t k hk).1.symm), (hF k (fZ_t k hk)).2⟩) hL ⟨fx_s hF 35 rfl, fx_a hF 36 rfl, fx_a hF 37 rfl, rfl, rfl⟩
theorem el_t {u v : iST} (hs : ∀ k, k ≤ 11 → v.1 k = u.1 k ∧ v.2.1 k = u.2.1 k) : ∀ (i : Nat) (l : Int), el v l i = el u l i := by
  intro i
  induction i with
  | zero => intro l; show v.2.1 0 l = u.2.1 0 l; rw [(hs 0 (by decide)).2]
  | succ i ih => intro l; show el v (v.2.1 1 l) i = el u (u.2.1 1 l) i; rw [ih, (hs 1 (by decide)).2]
theorem DNew.fz {w v : iST} {f l body m self : Int} {N : Nat} (hT : TI w) (hF : Fx fZ w v) (hL : v.2.2 = w.2.2) (D : DNew w f l body m self N) : DNew v f l body m self N := by
  obtain ⟨hb, hv, hl, hN, hvar, f16, f1, hf, hself, hm2⟩ := D
  have ht : ∀ k, k ≤ 11 → v.1 k = w.1 k ∧ v.2.1 k = w.2.1 k := fun k hk => hF k (fZ_t k hk)
  have e0 := (ht 0 (by decide)).2
  have e8 := (ht 8 (by decide)).1
  refine ⟨hb.ext (gh_ti hT) (gh_same hF hL), ?_, hl.eq ht, hN, fun i hi => by rw [e0, el_t ht]; exact hvar i hi, f16, by omega, by rw [e0]; exact hf, hself, fun z => by rw [e8]; exact hm2 z⟩
  refine (AllT.eq ht hv).mono (fun x hx hz => ?_)
  rw [e0] at hz
  obtain ⟨i, i1, i2⟩ := hx hz
  exact ⟨i, i1, by rw [el_t ht]; exact i2⟩
theorem g_defun107 {u w : iST} {f l body m x2 c : Int} {N : Nat} {Q : Int → iST → Prop} (hP : Pre u) (hg : GP (gh f N u) w c) (h61 : w.1 61 = u.1 61) (hc : c ≤ 2000) (hl : IsL u l N) (hN : N ≤ 6) (hvar : ∀ i, i < N → u.2.1 0 (el u l i) = -2) (f16 : 16 < f) (f1 : f < u.1 8) (hf : u.2.1 0 f = -2) (hb : body = -1 ∨ TJ w body) (hm : x2 = 5 → m = -1 ∨ TJ w m) (hqA : ∀ b v, Kp u v → b ≠ 0 → Q b v) (hqB : ∀ v, CB u v c → Q 0 v) : w_defun_107 Q x2 f l body m w := by
  have hu := hP.1.1.1
  have hC := hP.2.1
  obtain ⟨a1, a2, a3, a4, a5, a6, a7, a8, a9⟩ := hg
  have w57 : w.1 57 = f := fx_s a3 57 rfl
  have w58 : w.1 58 = N := fx_s a3 58 rfl
  unfold w_defun_107
  refine sw_i ?_
  have egh : gh f N (iI w 57 (-1)) = w := by
    refine Prod.ext (funext fun k => ?_) rfl
    by_cases k1 : k = 58
    · subst k1; exact w58.symm
    · by_cases k2 : k = 57
      · subst k2; exact w57.symm
      · rw [gh_s k2 k1]; exact if_neg k2
  have t1 : ∀ k, k ≤ 11 → (iI w 57 (-1)).1 k = w.1 k ∧ (iI w 57 (-1)).2.1 k = w.2.1 k := fun k hk => ⟨if_neg (by omega), rfl⟩
  have T1 : TI (iI w 57 (-1)) := TI_eq a1 t1 rfl
  have v57 : (iI w 57 (-1)).1 57 = -1 := rfl
  have E1 : ExtT u (iI w 57 (-1)) := ExtT.mk0 ⟨a2.1.1, a2.1.2⟩ (fun x hx => a2.2.1 x (gh_w' hx)) (fx_s a3 35 rfl) (fx_a a3 36 rfl) (fx_a a3 37 rfl) hC.2.2.1 rfl
  have hS : St u (iI w 57 (-1)) c := by
    refine ⟨⟨T1, E1, a4, a5, OI_eq hP.1.2.2.2.1 (fx_s a3 16 rfl) (fx_s a3 22 rfl), fun k hk => ?_⟩, a6, a7, a8, fx_s a3 60 rfl, h61, fx_s a3 117 rfl⟩
    by_cases k2 : k = 57
    · subst k2; exact ⟨hC.2.2.1.symm, (a3 57 rfl).2⟩
    · have hk2 : fB k = false := by simp [fA] at hk; simp [fB]; omega
      have k8 : k ≠ 58 := fun e => by rw [e] at hk; cases hk
      exact ⟨(if_neg k2).trans ((a3 k hk2).1.trans (gh_s k2 k8)), (a3 k hk2).2⟩
  have w8 := E1.1.1.1
  have hm' : x2 = 5 → m = -1 ∨ TJ (gh f N (iI w 57 (-1))) m := by rw [egh]; exact hm
  have hb' : body = -1 ∨ TJ (gh f N (iI w 57 (-1))) body := by rw [egh]; exact hb
  have hlw : IsL (iI w 57 (-1)) l N := hl.ext hu E1.1
  have hvw : ∀ i, i < N → (iI w 57 (-1)).2.1 0 (el (iI w 57 (-1)) l i) = -2 := fun i hi => by
    rw [el_ext E1.1 hl i hi]
    have r := IsL.elr hu hl i hi
    rw [(E1.1.2.1 _ r.1 r.2).1]
    exact hvar i hi
  have hfw : (iI w 57 (-1)).2.1 0 f = -2 := by rw [(E1.1.2.1 f (by omega) f1).1]; exact hf
  have f1w : f < (iI w 57 (-1)).1 8 := by omega
  clear hb hm egh t1 w57 w58 a1 a2 a3 a4 a5 a6 a7 a8 a9
  generalize iI w 57 (-1) = w1 at *
  refine br_i (fun _ => hqA 2 w1 hS.1 (by decide)) fun hb1 => ?_
  have hb := hb'.resolve_left hb1
  have hb2 : sz w1 body ≤ 120 := hb.2
  have k131 : (x2 = 5 → TJ (gh f N w1) m) → w_defun_131 Q x2 f l body m w1 := by
    intro hmt
    unfold w_defun_131
    refine g_hasOnly T1 (gh_w hb.1.w) (by omega) hlw fun b v2 _ F2 L2 hv2 => br_i (fun hb0 => ?_) fun _ => hqA 2 v2 (hS.fz hP (F2.mono fV_Z) L2).1 (by decide)
    have hv2 := hv2 hb0
    have F2 := F2.mono fV_Z
    have S2 := hS.fz hP F2 L2
    have t2 : ∀ k, k ≤ 11 → v2.1 k = w1.1 k ∧ v2.2.1 k = w1.2.1 k := fun k hk => F2 k (fZ_t k hk)
    have T2 := S2.1.1
    have D0 : ∀ self, bz self → (self ≠ 0 → 0 ≤ m ∧ m < w1.1 8) → DNew w1 f l body m self N := fun self h1 h2 => ⟨hb, hv2, hlw, hN, hvw, f16, f1w, hfw, h1, h2⟩
    refine g_hasCall T2 ((gh_w hb.1.w).eq t2) (by rw [sz_t t2]; omega) fun r v3 rb F3 L3 _ => ?_
    have F3 := F3.mono fK_Z
    have S3 := S2.fz hP F3 L3
    have F13 := F2.tr F3
    have L13 := L3.trans L2
    have stop : Q 2 v3 := hqA 2 v3 S3.1 (by decide)
    refine br_i (fun h5 => ?_) fun h5 => ?_
    · unfold w_defun_165
      refine br_i (fun e => br_i (fun _ => ?_) fun z => absurd h5 z) fun _ => stop
      exact g_defun198 hP S3 hc ((D0 r rb (fun z => absurd e z)).fz T1 F13 L13) (fun z => absurd e z) hqA hqB
    · have h5 : x2 = 5 := by omega
      have hmt := hmt h5
      have hm2 : sz w1 m ≤ 120 := hmt.2
      have hmr := (gh_w hmt.1.w).r
      unfold w_defun_165
      refine br_i (fun e => br_n (by omega) ?_) fun _ => stop
      have t3 : ∀ k, k ≤ 11 → v3.1 k = w1.1 k ∧ v3.2.1 k = w1.2.1 k := fun k hk => F13 k (fZ_t k hk)
      refine g_hasOnly S3.1.1 ((gh_w hmt.1.w).eq t3) (by rw [sz_t t3]; omega) (hlw.eq t3) fun b v4 _ F4 L4 _ => ?_
      have F4 := F4.mono fV_Z
      have S4 := S3.fz hP F4 L4
      refine br_i (fun _ => hqA 2 v4 S4.1 (by decide)) fun _ => ?_
      have F14 := F13.tr F4
      have L14 := L4.trans L13
      have t4 : ∀ k, k ≤ 11 → v4.1 k = w1.1 k ∧ v4.2.1 k = w1.2.1 k := fun k hk => F14 k (fZ_t k hk)
      refine g_hasCall S4.1.1 ((gh_w hmt.1.w).eq t4) (by rw [sz_t t4]; omega) fun r2 v5 _ F5 L5 hno => ?_
      have F5 := F5.mono fK_Z
      have S5 := S4.fz hP F5 L5
      refine br_i (fun hz => ?_) fun _ => hqA 2 v5 S5.1 (by decide)
      have F15 := F14.tr F5
      have L15 := L5.trans L14
      refine g_defun198 hP S5 hc ((D0 r rb (fun _ => hmr)).fz T1 F15 L15) (fun _ => ?_) hqA hqB
      have n4 : NoF v4 f m := hno hz
      have t5 : ∀ k, k ≤ 11 → v5.1 k = v4.1 k ∧ v5.2.1 k = v4.2.1 k := fun k hk => F5 k (fZ_t k hk)
      exact gh_tj S5.1.1 (S5.wi hP).2.2.2.1 (hmt.ext (gh_ti T1) (gh_same F15 L15)) (NoF.eq t5 n4)
  refine br_i (fun h5 => k131 (fun z => absurd z h5)) fun h5 => br_i (fun _ => hqA 2 w1 hS.1 (by decide)) fun hm1 => k131 (fun z => (hm' z).resolve_left hm1)
theorem wA_t {u v : iST} (hT : TI u) (hs : ∀ k, k ≤ 11 → v.1 k = u.1 k ∧ v.2.1 k = u.2.1 k) (hL : v.2.2 = u.2.2) {x : Int} (x0 : 0 ≤ x) (x1 : x < u.1 8) : wA v x = wA u x := (w_ext hT (TI_eq hT hs hL) (Ext_eq hs hL) x0 x1).1
theorem g_defun {u : iST} {o : Int} {Q : Int → iST → Prop} (hP : Pre u) (o0 : 0 ≤ o) (o1 : o < u.1 8) (hw : wB u o ≤ 1000) (hqA : ∀ b v, Kp u v → b ≠ 0 → Q b v) (hqB : ∀ v, CB u v (wB u o) → Q 0 v) : w_defun o Q u := by
  have hu := hP.1.1.1
  have hC := hP.2.1
  have u8 := hP.2.2.2.1
  have um := hu.2.1
  have stop : Q 2 u := hqA 2 u (Kp.rf hP.1) (by decide)
  have k16 : ∀ n : Nat, IsL u o n → (n : Int) = 4 ∨ (n : Int) = 5 → w_defun_16 Q o n u := by
    intro n hlo hn
    have r1 := IsL.elr hu hlo 1 (by omega)
    have r2 := IsL.elr hu hlo 2 (by omega)
    have r3 := IsL.elr hu hlo 3 (by omega)
    have b1 : wB u (dr u o 1) = wA u (el u o 1) + wB u (dr u o 2) := wB_dr hu (i := 1) hlo (by omega)
    have b2 : wB u (dr u o 2) = wA u (el u o 2) + wB u (dr u o 3) := wB_dr hu (i := 2) hlo (by omega)
    have b3 : wB u (dr u o 3) = wA u (el u o 3) + wB u (dr u o 4) := wB_dr hu (i := 3) hlo (by omega)
    have b4 := wB_drp hu (i := 4) hlo (by omega)
    have b0 : wB u o = wA u (el u o 0) + wB u (dr u o 1) := wB_dr hu (i := 0) hlo (by omega)
    have r0 := IsL.elr hu hlo 0 (by omega)
    have w0 := w_pos hu r0.1 r0.2
    have w1 := w_pos hu r1.1 r1.2
    have w2 := w_pos hu r2.1 r2.2
    have w3 := w_pos hu r3.1 r3.2
    unfold w_defun_16
    refine s_nth hu o0 o1 (by decide) (by decide) (s_isNewName r1.1 (by show el u o 1 < 452000; omega) fun b _ hb => br_i (fun _ => stop) fun hb0 => s_nth hu o0 o1 (by decide) (by decide) (s_areVariables hu r2.1 r2.2 (by decide) fun b' _ hb' => br_i (fun hb1 => ?_) fun _ => stop))
    obtain ⟨f0, f16⟩ := hb hb0
    obtain ⟨N, hN, hl, hvar⟩ := hb' hb1
    clear hb hb'
    refine s_nth hu o0 o1 (by decide) (by decide) (s_nth hu o0 o1 (by decide) (by decide) (sw_i ?_))
    show w_lengthOf (el u o 2) _ (iI u 57 (el u o 1))
    have t1 : ∀ k, k ≤ 11 → (iI u 57 (el u o 1)).1 k = u.1 k ∧ (iI u 57 (el u o 1)).2.1 k = u.2.1 k := fun k hk => ⟨if_neg (by omega), rfl⟩
    have T1 : TI (iI u 57 (el u o 1)) := TI_eq hu t1 rfl
    have L1 : IsL (iI u 57 (el u o 1)) (el u o 2) N := IsL.eq (u := u) (v := iI u 57 (el u o 1)) t1 hl
    refine s_lengthOf T1 r2.1 r2.2 (fun hno => absurd L1 (hno N)) fun ln _ hln => ?_
    have := IsL_uniq T1 hln L1
    subst this
    refine sw_i ?_
    have hG : GI (gh (el u o 1) ln u) := ⟨gh_ti hu, ⟨hC.di.1, hC.di.2.1, hC.di.2.2.1, fun _ => ⟨f16, r1.2, f0, by show (0 : Int) ≤ (ln : Int); omega, by show (ln : Int) ≤ 6; omega⟩⟩, hP.1.1.2.2.1, hP.1.1.2.2.2⟩
    show w_nth o 3 _ (gh (el u o 1) ln u)
    refine s_nth (gh_ti hu) o0 o1 (by decide) (by decide) ?_
    rw [el_gh]
    have wg : wA (gh (el u o 1) ln u) (el u o 3) = wA u (el u o 3) := wA_t hu gh_t rfl r3.1 r3.2
    refine g_term hG r3.1 r3.2 (by rw [show (3 : Int).toNat = 3 from rfl, wg]; omega) (by rw [show (3 : Int).toNat = 3 from rfl, wg]; show u.1 8 + wA u (el u o 3) < 451990; omega) fun t v hv h61 ht => ?_
    rw [show (3 : Int).toNat = 3 from rfl, wg] at hv
    refine br_i (fun h5 => ?_) fun h5 => ?_
    · exact g_defun107 hP hv h61 (by omega) hl (by omega) (fun i hi => (hvar i hi).1) f16 r1.2 f0 ht (fun z => absurd z h5) hqA (fun v hv => hqB v ⟨hv.1, hv.2.1, hv.2.2.1, hv.2.2.2.1, hv.2.2.2.2.1, hv.2.2.2.2.2.1, hv.2.2.2.2.2.2.1, by have := hv.2.2.2.2.2.2.2.1; omega, hv.2.2.2.2.2.2.2.2⟩)
    · have hn5 : n = 5 := by omega
      subst hn5
      have r4 := IsL.elr hu hlo 4 (by omega)
      have b4' : wB u (dr u o 4) = wA u (el u o 4) + wB u (dr u o 5) := wB_dr hu (i := 4) hlo (by omega)
      have b5 := wB_drp hu (i := 5) hlo (by omega)
      have v8 := hv.2.1.1.1.1
      have v8 : u.1 8 ≤ v.1 8 := v8
      have v8b := hv.2.2.2.2.2.1
      have v8b : v.1 8 ≤ u.1 8 + (wA u (el u o 3) - 1) := v8b
      refine s_nth hv.1 o0 (by omega) (by decide) (by decide) ?_
      have e4 : el v o (4 : Int).toNat = el u o 4 := by
        have : el v o 4 = el (gh (el u o 1) ln u) o 4 := el_ext hv.2.1.1 (IsL.eq (u := u) (v := gh (el u o 1) ln u) gh_t hlo) 4 (by omega)
        rw [el_gh] at this
        exact this
      rw [e4]
      have w4 : wA v (el u o 4) = wA u (el u o 4) := ((w_ext (gh_ti hu) hv.1 hv.2.1.1 r4.1 (show el u o 4 < u.1 8 from r4.2)).1).trans (wA_t hu gh_t rfl r4.1 r4.2)
      have w4p := w_pos hu r4.1 r4.2
      refine g_term (hv.gi hG) r4.1 (by omega) (by rw [w4]; omega) (by rw [w4]; omega) fun t2 v2 hv2 h612 ht2 => ?_
      rw [w4] at hv2
      have hvv := hv.tr (gh_ti hu) hv2
      refine g_defun107 hP hvv (h612.trans h61) (by omega) hl (by omega) (fun i hi => (hvar i hi).1) f16 r1.2 f0 (ht.imp id (fun z => TJ.ext hv.1 hv2.2.1 z)) (fun _ => ht2) hqA (fun v hv => hqB v ⟨hv.1, hv.2.1, hv.2.2.1, hv.2.2.2.1, hv.2.2.2.2.1, hv.2.2.2.2.2.1, hv.2.2.2.2.2.2.1, by have := hv.2.2.2.2.2.2.2.1; omega, hv.2.2.2.2.2.2.2.2⟩)
  unfold w_defun
  refine s_lengthOf hu o0 o1 (fun _ => br_n (by decide) (br_y (by decide) stop)) fun n _ hn => br_i (fun h4 => k16 n hn (Or.inl h4)) fun h4 => br_i (fun _ => stop) fun h5 => k16 n hn (Or.inr (by omega))
