/-! defthm, prove -/
theorem GP.kp {u v : iST} {d : Int} (h : GP u v d) (hO : OI u) : Kp u v := ⟨h.1, h.2.1, h.2.2.2.1, h.2.2.2.2.1, OI_eq hO (fx_s h.2.2.1 16 rfl) (fx_s h.2.2.1 22 rfl), h.2.2.1.mono (fun k hk => fB_M k (fM_A k hk))⟩
theorem Hs.kp {u v : iST} {c : Int} (h : Hs u v c) (hO : OI u) : Kp u v := ⟨h.1, h.2.1, h.2.2.2.1, h.2.2.2.2.1, OI_eq hO (fx_s h.2.2.1 16 rfl) (fx_s h.2.2.1 22 rfl), h.2.2.1.mono (fun k hk => by simp [fA] at hk; simp [fHi, fB]; omega)⟩
theorem CB.mono {u v : iST} {c d : Int} (h : CB u v c) (hd : c ≤ d) : CB u v d := ⟨h.1, h.2.1, h.2.2.1, h.2.2.2.1, h.2.2.2.2.1, h.2.2.2.2.2.1, h.2.2.2.2.2.2.1, by have := h.2.2.2.2.2.2.2.1; omega, h.2.2.2.2.2.2.2.2⟩
theorem g_defthm {u : iST} {o nm : Int} {Q : Int → iST → Prop} (hP : Pre u) (o0 : 0 ≤ o) (o1 : o < u.1 8) (hw : wB u o ≤ 1000) (h8 : u.1 8 + wB u o ≤ 51300) (hqA : ∀ b v, Kp u v → Q b v) (hqB : ∀ v, CB u v (wB u o) → Q 0 v) : w_defthm o nm Q u := by
  have hW := hP.1
  have hC := hP.2.1
  have hu := hW.1.1
  have hG := hW.1
  have hO := hW.2.2.2.1
  have um := hu.2.1
  have u6 := hP.2.2.2.2.1
  have u60 := hP.2.2.2.2.2.1
  have u61 := hP.2.2.2.2.2.2.1
  have stop : ∀ b, Q b u := fun b => hqA b u (Kp.rf hW)
  have k42 : ∀ (n : Nat) (from_ : Int), IsL u o n → (from_ = 1 ∨ (from_ = 2 ∧ nm ≠ 0)) → from_ < n → w_defthm_42 Q o nm from_ u := by
    intro n from_ hn hfr hlt
    obtain ⟨fm, rfl⟩ : ∃ fm : Nat, from_ = fm := ⟨from_.toNat, by omega⟩
    have rf := IsL.elr hu hn fm (by omega)
    have b1 := wB_dr hu (i := fm) hn (by omega)
    have b2 := wB_drp hu (i := fm + 1) hn (by omega)
    have b3 := wB_dle hu hn fm (by omega)
    have wf := w_pos hu rf.1 rf.2
    unfold w_defthm_42
    refine s_nth hu o0 o1 (by omega) (by omega) ?_
    rw [show ((fm : Int)).toNat = fm from by omega]
    refine g_term hG rf.1 rf.2 (by omega) (by omega) fun t v hv h61 ht => ?_
    have kv := hv.kp hO
    have vT := hv.1
    have vE := hv.2.1
    have vm := vT.2.1
    have v8 := vE.1.1.1
    have v8b := hv.2.2.2.2.2.1
    have hnv := hn.ext hu vE.1
    have vG := hv.gi hG
    have vC := kv.core hu hC
    have vO := kv.2.2.2.2.1
    have edr : ∀ i, i ≤ n → dr v o i = dr u o i := by
      intro i
      induction i with
      | zero => intro _; rfl
      | succ i ih =>
        intro hi
        have r := dr_r hu hn (i := i) (by omega)
        rw [dr_next, dr_next, ih (by omega), (vE.1.2.1 _ r.1 r.2).2.1]
    unfold w_defthm_61
    refine lf6 (B := fun R x1 x2 x4 x5 x6 x7 u => w_defthm_61b R Q x1 x2 x4 x5 x6 x7 u) (fun c1 c2 c4 c5 c6 c7 z => o = c1 ∧ nm = c2 ∧ (fm : Int) = c4 ∧ t = c5 ∧ v = z ∧ ∃ i : Nat, c7 = i ∧ i ≤ fm + 1 ∧ c6 = dr u o i) (fun _ _ _ _ _ c7 _ => (fm + 1 - c7).toNat) ?_ ⟨rfl, rfl, rfl, rfl, rfl, 0, rfl, by omega, rfl⟩
    intro c1 c2 c4 c5 c6 c7 z hI R ih
    obtain ⟨q1, q2, q3, q4, q5, i, rfl, q6, rfl⟩ := hI
    subst q1
    subst q2
    subst q3
    subst q4
    subst q5
    unfold w_defthm_61b
    refine br_i (fun hgt => ?_) fun hle => ?_
    · have ei : i = fm + 1 := by omega
      subst ei
      have hrest := dr_isL hnv (i := fm + 1) (by omega)
      rw [edr _ (by omega)] at hrest
      have rr := dr_r hu hn (i := fm + 1) (by omega)
      have wr : wB v (dr u o (fm + 1)) = wB u (dr u o (fm + 1)) := (w_ext hu vT vE.1 rr.1 rr.2).2
      refine g_hints vG vC hrest (by rw [wr]; omega) (by rw [wr]; omega) fun w hw2 => ?_
      rw [wr] at hw2
      have kw : Kp u w := kv.tr hu (hw2.1.kp vO)
      have wT := hw2.1.1
      have vwE := hw2.1.2.1
      have wF := hw2.1.2.2.1
      have w8 := hw2.1.2.2.2.2.2.1
      have wC := kw.core hu hC
      have stopw : ∀ b, Q b w := fun b => hqA b w kw
      refine br_i (fun _ => stopw 2) fun ht1 => br_i (fun h2 => br_i (fun _ => stopw 3) fun h3 => ?_) fun _ => stopw 2
      have h136 : w.1 136 = 0 := by have := hw2.2.2; unfold W6 at this; omega
      have htv : TJ v t := ht.resolve_left ht1
      have htw : TJ w t := htv.ext vT vwE
      have w60 : w.1 60 = u.1 60 := by rw [fx_s wF 60 rfl, fx_s hv.2.2.1 60 rfl]
      have w59 : w.1 59 = u.1 59 := fx_s kw.2.2.2.2.2 59 rfl
      have w6 : w.1 6 = u.1 6 := hw2.1.2.2.2.2.2.2.1.trans hv.2.2.2.2.2.2.1
      have w11 : w.1 11 = u.1 11 := hw2.1.2.2.2.2.2.2.2.1.trans hv.2.2.2.2.2.2.2.1
      have u59 := hW.2.2.2.2.2.2
      have wW : WI w := WI.mk wT wC kw.2.2.1 kw.2.2.2.1 kw.2.2.2.2.1 (by omega) (by omega) (by omega)
      have w54 : w.1 54 = w.1 35 + w.1 42 := by
        have hF := kw.2.2.2.2.2
        rw [fx_s hF 54 rfl, fx_s hF 35 rfl, fx_s hF 42 rfl]; exact hP.2.2.1
      have uw8 := kw.2.1.1.1.1
      have k147 : (nm ≠ 0 → w.1 42 < 60) → w_defthm_147 Q o nm t w := by
        intro h42
        unfold w_defthm_147
        refine rd_i fun _ => g_proveBy wW wC (by omega) (by omega) htw hw2.2.1 (by omega) h136 fun b y _ ky hl => rd_i fun _ => br_i (fun h610 => br_i (fun hb => ?_) fun hb => ?_) fun _ => hqA 4 y (kw.tr hu ky)
        · refine g_back wT wC.2.2.1 ky fun s hs => br_i (fun _ => hqA 0 s (kw.tr hu hs.1)) fun hnm => ?_
          have sE := hs.1.2.1
          have s8 := hs.2.1
          have hno : IsL u o n := hn
          have r1 := IsL.elr hu hn 1 (by omega)
          refine s_nth hs.1.1 o0 (by omega) (by decide) (by decide) ?_
          have e1 : el s o (1 : Int).toNat = el u o 1 := el_ext (kw.2.1.1.tr sE.1) hn 1 (by omega)
          rw [e1]
          have wc := wC.1
          have wc2 := wC.2.1
          have h42' := h42 hnm
          refine g_addTheorem wT wC h42' (by omega) (by omega) r1.1 (by omega) htw (by decide) hs fun x hx => hqB x ?_
          have := Kp.cb hu kw (d := wB u o) (by omega) (by omega) (by omega) hx
          exact this.mono (by omega)
        · obtain ⟨a1, a2, a3, a4⟩ := hl h610 (by omega)
          exact g_tellLeft ky.1 ky.2.2.2.2.1 a1 a2 a3 a4 fun t' x hg htt => hqA 6 x ((kw.tr hu ky).tr hu (Kp.told ky.2.2.1 ky.2.2.2.1 ky.1 hg htt))
      have k131 : w_defthm_131 Q o nm t w := by
        unfold w_defthm_131
        refine br_i (fun h0 => k147 (fun z => absurd h0 z)) fun _ => rd_i fun _ => br_i (fun h60 => k147 (fun _ => by have := wC.2.1.2; omega)) fun _ => stopw 8
      refine br_i (fun _ => k131) fun _ => s_nth wT o0 (by omega) (by decide) (by decide) (s_theoremOf wC.2.1.1 wC.2.1.2 fun r _ => br_i (fun _ => k131) fun _ => stopw 3)
    · have r := dr_r hu hn (i := i) (by omega)
      refine bd_i r.1 (by omega) (rd_i fun _ => ov_i (by omega) (by omega) ?_)
      rw [(vE.1.2.1 _ r.1 r.2).2.1, ← dr_next]
      exact ih _ _ _ _ _ _ _ ⟨rfl, rfl, rfl, rfl, rfl, i + 1, by omega, by omega, rfl⟩ (by omega)
  have k15 : ∀ (x3 y0 : Int), (y0 = 1 ∨ (y0 = 2 ∧ nm ≠ 0)) → (x3 = -1 ∨ ∃ n : Nat, x3 = n ∧ IsL u o n) → w_defthm_15 Q o nm x3 y0 u := by
    intro x3 y0 hy hx
    unfold w_defthm_15
    refine br_i (fun _ => stop 2) fun hlt => ?_
    obtain ⟨n, rfl, hn⟩ := hx.resolve_left (by omega)
    clear hx
    refine br_i (fun _ => k42 n y0 hn hy (by omega)) fun _ => s_nth hu o0 o1 (by decide) (by decide) ?_
    have r1 := IsL.elr hu hn 1 (by omega)
    exact s_isNewName r1.1 (by show el u o 1 < 452000; omega) fun b _ _ => br_i (fun _ => k42 n y0 hn hy (by omega)) fun _ => stop 2
  unfold w_defthm
  exact s_lengthOf hu o0 o1 (fun _ => br_i (fun _ => k15 (-1) 1 (Or.inl rfl) (Or.inl rfl)) fun hne => k15 (-1) 2 (Or.inr ⟨rfl, hne⟩) (Or.inl rfl)) fun n _ hn => br_i (fun _ => k15 n 1 (Or.inl rfl) (Or.inr ⟨n, rfl, hn⟩)) fun hne => k15 n 2 (Or.inr ⟨rfl, hne⟩) (Or.inr ⟨n, rfl, hn⟩)
