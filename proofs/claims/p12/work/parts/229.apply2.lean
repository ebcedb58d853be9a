/-! a call whose terms are rewritten -/
theorem TV_const {w : iST} (hT : TI w) {o : Int} {m : Nat} (ho : IsT w o) (hc : Call w o) (hl : IsL w (w.2.1 1 o) m) (ha : AllE w (Cst w) (w.2.1 1 o) m) : TV w (fun _ => False) o := by
  refine ⟨ho, fun x => x = o ∨ Cst w x, fun x hx => ?_, Or.inl rfl⟩
  have n0 := hT.2.2.2.2.2.2.2.2.1 0 (by decide) (by decide)
  have n1 := hT.2.2.2.2.2.2.2.2.1 1 (by decide) (by decide)
  rcases hx with rfl | hx
  · exact ⟨fun z => absurd z.1 (by have := hc.1; omega), fun _ => ⟨m, hl, ha.imp (fun y hy => Or.inr hy)⟩⟩
  · refine ⟨fun z => ?_, fun z => ?_⟩
    · rcases hx with q | q | q | q
      · omega
      · exact absurd q z.2.1
      · exact absurd q z.2.2
      · have := q.2.1; omega
    · exfalso
      rcases hx with q | q | q | q
      · omega
      · rw [q] at z; omega
      · rw [q] at z; omega
      · have := q.2.1; omega
theorem TJ.el {o i : Int} {u : iST} (hT : TI u) (ho : TJ u o) (h0 : 3 ≤ u.2.1 0 o) (h1 : u.2.1 0 o ≤ 16) (hi : i = 1 ∨ (i = 2 ∧ u.2.1 0 o ≤ 9) ∨ (i = 3 ∧ u.2.1 0 o = 3)) : TJ u (el u o i.toNat) := by
  obtain ⟨n, a, b, c, d⟩ := ho.args hT ⟨by omega, by omega⟩
  have hn : (n = 3 ∧ u.2.1 0 o = 3) ∨ (n = 2 ∧ 4 ≤ u.2.1 0 o ∧ u.2.1 0 o ≤ 9) ∨ (n = 1 ∧ 10 ≤ u.2.1 0 o) := by
    rcases (show u.2.1 0 o = 3 ∨ (4 ≤ u.2.1 0 o ∧ u.2.1 0 o ≤ 9) ∨ 10 ≤ u.2.1 0 o by omega) with z | z | z
    · exact Or.inl ⟨b.fun (Ar_base h0 h1 (Or.inl ⟨z, rfl⟩)), z⟩
    · exact Or.inr (Or.inl ⟨b.fun (Ar_base h0 h1 (Or.inr (Or.inl ⟨z.1, z.2, rfl⟩))), z⟩)
    · exact Or.inr (Or.inr ⟨b.fun (Ar_base h0 h1 (Or.inr (Or.inr ⟨z, rfl⟩))), z⟩)
  obtain ⟨j, hj⟩ : ∃ j : Nat, i = j + 1 := ⟨(i - 1).toNat, by omega⟩
  rw [show i.toNat = j + 1 from by omega]
  exact AllE.el d j (by omega)
theorem K0.fail {u y : iST} {k n : Nat} {R C x d e c : Int} {Q : iST → Prop} (hu : TI u) (h : K0 u y k n R C x d e) (hd : d ≤ 600) (he : e ≤ 16) (hc : c ≠ 0) (hq : ∀ (N : Nat) v, EX u N v → N < n → Q v) : w_fail c Q y := by
  have hW := h.1.1
  refine s_fail fun v hv h0 h1 => ?_
  have hS : SP fM y v 0 0 := by
    rcases hv with rfl | rfl
    · exact SP.rf hW
    · exact SP.same hW fM_J (Fx_I (k := 61) rfl) (fun g hg => ⟨if_neg (by omega), rfl⟩) rfl rfl rfl rfl hW.2.2.2.1
  refine (h.sp hu hS).stop (by omega) (by omega) ?_ hq
  by_cases e : y.1 61 = 0
  · rw [h0 e]; exact hc
  · rw [h1 e]; exact e
theorem g_apply {u w : iST} {k n : Nat} {R C x : Int} {Q : iST → Prop} (hu : TI u) (hB : Bud u) (h : K0 u w k n R C x 17 2) (h3 : w.2.1 0 x ≠ 3) (hq : ∀ (N : Nat) v, EX u N v → N < n → Q v) : w_apply k Q w := by
  have hk := h.1.2.2.2.1
  have hW := h.1.1
  have hT := hW.1.1
  have hm := hT.2.1
  have hD := hW.1.2.1
  have rx := h.2.2.1.1.r
  have hc := h.2.2.2.1
  obtain ⟨m, c1, c2, c3, c4⟩ := h.2.2.1.args hT hc
  have bud := h.1.bud hB
  have k244 : ∀ z y0 d e, K0 u z k n R C x d e → d ≤ 260 → e ≤ 4 → ((y0 = -1 ∧ d ≤ 20) ∨ (IsT z y0 ∧ Sm z y0)) → w_apply_244 Q k x y0 z := by
    intro z y0 d e hz hd he hy
    have hzW := hz.1.1
    unfold w_apply_244
    refine br_i (fun e1 => bd_i (by omega) (by omega) (rz_i fun _ => s_lookedUp hzW.1.1 hz.1.2.2.2.2.2.2.2 hz.2.2.1 fun t ht => ?_)) (fun e1 => ?_)
    · have hd10 : d ≤ 20 := by
        rcases hy with hy | hy
        · exact hy.2
        · have := hy.1.r; omega
      have h42 := hzW.2.2.1.1
      have h42b := hzW.2.2.1.2.1
      exact br_i (fun _ => rd_i fun _ => ov_i (by omega) (by omega) (g_tryRules hu hB hz hd10 he (by omega) (by omega) hq)) fun _ => hz.end0 hu hd10 he ht.1 (fun _ => ht.2) hq
    · have hy2 := hy.resolve_left (fun q => e1 q.1)
      exact hz.passOn hu hd he hy2.1 hy2.2 hq
  have k218 : ∀ z f, K0 u z k n R C x 18 3 → (f = 9 → z.2.1 0 x = 9) → w_apply_218 Q k x f z := by
    intro z f hz hf
    have hzW := hz.1.1
    have zbud := hz.1.bud hB
    unfold w_apply_218
    refine br_i (fun _ => k244 z (-1) _ _ hz (by omega) (by omega) (Or.inl ⟨rfl, by omega⟩)) fun h9 => ?_
    have e9 := hf (by omega)
    exact t_base hzW.1.1 hz.2.2.1 (by omega) (by omega) (Or.inl rfl) fun a ha => t_base hzW.1.1 hz.2.2.1 (by omega) (by omega) (Or.inr (Or.inl ⟨rfl, by omega⟩)) fun b hb => g_fallen hzW ha hb (by omega) (by omega) (k244 z (-1) _ _ hz (by omega) (by omega) (Or.inl ⟨rfl, by omega⟩)) fun t v hS ht hts => k244 v t _ _ (hz.sp hu hS) (by omega) (by omega) (Or.inr ⟨ht, hts⟩)
  have k86 : ∀ z f, K0 u z k n R C x 18 3 → (100 ≤ f ∨ (4 ≤ f ∧ f ≤ 16 ∧ z.2.1 0 x = f)) → w_apply_86 Q k x f z := by
    intro z f hz hf
    have hzW := hz.1.1
    have zT := hzW.1.1
    have zm := zT.2.1
    have zbud := hz.1.bud hB
    have q218 : w_apply_218 Q k x f z := k218 z f hz (fun e => by omega)
    unfold w_apply_86
    refine br_i (fun _ => q218) fun hlt => ?_
    have hf2 : 4 ≤ f ∧ f ≤ 16 ∧ z.2.1 0 x = f := by omega
    refine s_plain zT hz.2.2.1 (by omega) (by omega) (br_y rfl (br_i (fun _ => q218) fun h4 => ?_)) fun r hr => br_n (by have := hr.1.r; omega) (hz.end0 hu (by omega) (by omega) hr.1 (fun _ => hr.2) hq)
    have zx := hz.2.2.1
    have rzx := zx.1.r
    have ha := TJ.el (i := 1) zT zx (by omega) (by omega) (Or.inl rfl)
    have hb := TJ.el (i := 2) zT zx (by omega) (by omega) (Or.inr (Or.inl ⟨rfl, by omega⟩))
    have ra := ha.1.r
    have rb := hb.1.r
    refine s_term zT rzx.1 rzx.2 (by decide) (by decide) (s_isCallOf ra.1 (by omega) fun r1 _ hr1 => br_i (fun _ => q218) fun hz1 => s_term zT rzx.1 rzx.2 (by decide) (by decide) (s_isCallOf rb.1 (by omega) fun r2 _ hr2 => br_i (fun _ => q218) fun hz2 => s_term zT rzx.1 rzx.2 (by decide) (by decide) (s_term zT rzx.1 rzx.2 (by decide) (by decide) ?_)))
    have fa := (hr1.mp hz1).2
    have fb := (hr2.mp hz2).2
    generalize el z x (1 : Int).toNat = a at *
    generalize el z x (2 : Int).toNat = b at *
    refine t_base zT ha (by omega) (by omega) (Or.inl rfl) fun a1 ha1 => t_base zT hb (by omega) (by omega) (Or.inl rfl) fun b1 hb1 => ?_
    unfold w_made2
    refine g_made2 hzW.1 ha1.1 hb1.1 (by decide) (by decide) (by omega) fun t1 z1 hm1 _ _ => ?_
    have S1 := hm1.1.sp hzW
    have hK1 := hz.sp hu S1
    have W1 := hK1.1.1
    have bud1 := hK1.1.bud hB
    have ha' := ha.ext zT S1.2.1
    have hb' := hb.ext zT S1.2.1
    have ea := (S1.2.1.1.2.1 _ ra.1 ra.2).1
    have eb := (S1.2.1.1.2.1 _ rb.1 rb.2).1
    refine t_base W1.1.1 ha' (by omega) (by omega) (Or.inr (Or.inl ⟨rfl, by omega⟩)) fun a2 ha2 => t_base W1.1.1 hb' (by omega) (by omega) (Or.inr (Or.inl ⟨rfl, by omega⟩)) fun b2 hb2 => ?_
    refine g_made2 W1.1 ha2.1 hb2.1 (by decide) (by decide) (by omega) fun t2 z2 hm2 _ _ => ?_
    have S2 := hm2.1.sp W1
    have hK2 := hK1.sp hu S2
    have W2 := hK2.1.1
    have bud2 := hK2.1.bud hB
    refine g_made3 W2.1 (hm1.2.1.ext W1.1.1 S2.2.1) hm2.2.1 (TJ.c0 W2.1.1).1 (by omega) fun t3 z3 hm3 => ?_
    have S3 := hm3.1.sp W2
    exact (hK2.sp hu S3).passOn hu (by omega) (by omega) hm3.2.1 hm3.2.2.1 hq
  have k69 : ∀ z f y, K0 u z k n R C x 18 3 → (100 ≤ f ∨ (4 ≤ f ∧ f ≤ 16 ∧ z.2.1 0 x = f)) → (y = -1 ∨ (0 ≤ y ∧ y < z.1 8)) → w_apply_69 Q k x f y z := by
    intro z f y hz hf hy
    have hzW := hz.1.1
    have zbud := hz.1.bud hB
    unfold w_apply_69
    refine br_i (fun _ => k86 z f hz hf) fun hne => ?_
    have hy2 := hy.resolve_left hne
    exact g_constantOf hzW.1.1 (by omega) hy2.1 hy2.2 fun t v hg t0 t1 hcst _ => by
      have hK := hz.sp hu (Grow.gp hzW (hg.mono (Int.le_refl _) (by omega)))
      exact hK.end0 hu (by omega) (by omega) (TJ.cst t0 t1 hg.1 hcst).1 (fun _ => (TJ.cst t0 t1 hg.1 hcst).2) hq
  have k47 : ∀ z f y, K0 u z k n R C x 18 3 → (100 ≤ f ∨ (4 ≤ f ∧ f ≤ 16 ∧ z.2.1 0 x = f)) → (y = -1 ∨ (0 ≤ y ∧ y < z.1 8)) → w_apply_47 Q k x f y z := by
    intro z f y hz hf hy
    unfold w_apply_47
    exact br_i (fun _ => k69 z f y hz hf hy) fun _ => rd_i fun _ => br_i (fun _ => k69 z f y hz hf hy) fun _ => hz.fail hu (by omega) (by omega) (by decide) hq
  unfold w_apply
  refine bd_i (by omega) (by omega) (rd_i fun _ => ?_)
  rw [h.2.1]
  refine bd_i rx.1 (by omega) (rd_i fun _ => s_functionOf hD.1 hD.2.1 fun f hf => ?_)
  have hfc : 100 ≤ f ∨ (4 ≤ f ∧ f ≤ 16 ∧ w.2.1 0 x = f) := by
    obtain ⟨r', q1, q2, q3⟩ := c2
    have e := hf.fun q1
    subst e
    have h57 := hW.2.2.2.2.1
    have := hc.1
    rcases hf with ⟨a, b, c⟩ | ⟨a, b, c⟩ | ⟨a, b, d, d0, d1, d2, d3, d4⟩ | ⟨a, b, c, d⟩ <;> omega
  have h8' : K0 u w k n R C x 18 3 := h.mono (by omega) (by omega)
  refine s_areConstants hT rx.1 rx.2 c3 c4 fun r _ hr => br_i (fun _ => k86 w f h8' hfc) fun hz => br_i (fun h100 => ?_) fun h100 => ?_
  · refine g_evaluated hT hD hW.2.1 (TV_const hT h.2.2.1.1 hc c3 (hr hz)) hW.2.2.2.2.2.2.2 hW.2.2.2.2.2.1 hW.2.2.2.2.2.2.1 (by omega) (by omega) fun r v hE ha hb => ?_
    refine k47 v f r ((h.sp hu (hE.ep.sp hW)).mono (by omega) (by omega)) (Or.inl h100) ?_
    by_cases e : v.1 89 = 0
    · exact Or.inr (ha e)
    · exact Or.inl (hb e)
  · have hf2 : 4 ≤ f ∧ f ≤ 16 ∧ w.2.1 0 x = f := by omega
    refine g_constantValue hT rx.1 rx.2 c1 c3 c4 (hr hz) (fun a b => ?_) (fun a b => ?_) (by omega) (by omega) fun r v hE h60 hv => ?_
    · rw [hf2.2.2] at c2
      rcases (show (4 ≤ f ∧ f ≤ 9) ∨ 10 ≤ f by omega) with y1 | y1
      · have := c2.fun (Ar_base (n := 2) (by omega) b (Or.inr (Or.inl ⟨y1.1, y1.2, rfl⟩))); omega
      · have := c2.fun (Ar_base (n := 1) (by omega) b (Or.inr (Or.inr ⟨y1, rfl⟩))); omega
    · rw [hf2.2.2] at c2
      have := c2.fun (Ar_base (n := 2) (by omega) (by omega) (Or.inr (Or.inl ⟨a, b, rfl⟩))); omega
    · refine k47 v f r ((h.sp hu (hE.sp hW)).mono (by omega) (by omega)) (Or.inr ⟨hf2.1, hf2.2.1, ?_⟩) hv
      rw [(hE.2.1.1.2.1 _ rx.1 rx.2).1]
      exact hf2.2.2
