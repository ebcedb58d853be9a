/-! concludes, by rule -/
theorem len_wB {u : iST} (hT : TI u) : ∀ {n : Nat} {l : Int}, IsL u l n → (n : Int) ≤ wB u l
  | 0, l, h => by
    have e : l = 0 := h
    rw [e, wB_nil hT]; exact Int.le_refl _
  | n + 1, l, ⟨a, b, c, d⟩ => by
    have p := hT.pair a b c
    have := len_wB hT d
    have w := w_pos hT c (show u.2.1 0 l < u.1 8 by omega)
    rw [wB_pair hT a b c]
    omega
theorem g_conc {u a : iST} {c x o l m nn : Int} {n : Nat} {Q : Int → iST → Prop} (hu : TI u) (hCu : Core u) (h : CD u a c 0 0) (hx : FormOk u o n) (hw : wA u o ≤ 1000) (x0 : 0 ≤ x) (x1 : x + ((pTo (u.2.1 0 o) n : Int) - pFr (u.2.1 0 o)) ≤ 340) (hc : ∀ p : Int, 0 ≤ p → p < (pTo (u.2.1 0 o) n : Int) - pFr (u.2.1 0 o) → Cz u (x + p)) (c1 : c + 3 ≤ owW u o n) (hl : u.2.1 0 o ≤ 36 ∨ u.2.1 0 o = 40 → TJ a l ∧ sz a l = tS u (el u o 1) ∧ T2 a (el u o 1) l) (hm : 32 ≤ u.2.1 0 o → u.2.1 0 o ≤ 36 → TJ a m) (hnn : u.2.1 0 o = 35 ∨ u.2.1 0 o = 36 → TJ a nn) (h8 : u.1 8 + CC u o n ≤ 450500) (h6 : u.1 6 < 39000) (hq : ∀ b y, bz b → CD u y (CC u o n) 2 1100 → Q b y) : w_concludes_184 Q o x l m nn a := by
  have aT := h.1.1.1.1
  have aE := h.1.ex
  have aF := h.1.fx
  have a8 := aE.1.1.1
  have am := aT.2.1
  have a8b := h.1.e8
  have a6b := h.1.e6
  have kp : ∀ {v : iST} {c e : Int}, LZ u v c e → Core v := fun hv => (hv.2.1.kp).core hu hCu
  have aC := kp h.1
  have hr := hx.r
  have hn := hx.2.2.n
  have hR := hx.2.2
  have hL := hx.2.1
  have og := own_ge hu hx
  have hp := hx.parts
  have e0 := (aE.1.2.1 o hr.1 hr.2.1).1
  have er : ∀ i, i < n → 0 ≤ el u o i ∧ el u o i < u.1 8 := fun i hi => IsL.elr hu hL i hi
  have ee : ∀ i, i < n → el a o i = el u o i := fun i hi => el_ext aE.1 hL i hi
  have cc0 : u.2.1 0 o ≠ 27 → 398 * owW u o n - 279 ≤ CC u o n := fun z => by unfold CC; rw [if_neg z]; omega
  have fin : ∀ b y c' e' k', bz b → CD u y c' e' k' → c' ≤ CC u o n → e' ≤ 2 → k' ≤ 1100 → zt b (Q b y) := fun b y c' e' k' hb hy h1 h2 h3 => ⟨hb, hq b y hb (hy.mono h1 h2 h3)⟩
  have ext : ∀ {v t}, ExtT a v → IsT a t → IsT v t := fun hv ht => ht.ext aT hv
  unfold w_concludes_184
  refine bd_i hr.1 (by omega) (rd_i fun _ => ?_)
  rw [e0]
  refine br_i (fun r => ?_) fun _ => ?_
  · -- ax
    have cc := cc0 (by omega)
    have t := (hl (by omega)).1
    refine g_putCD hu h (by omega) t.1 (fun _ => t.2) fun y hy yE => g_notOfD hu hy (t.ext aT yE) (by omega) fun t2 z hz _ z1 z2 => g_putCD hu hz (by omega) z1 z2 fun w hw _ => fin 1 w _ _ _ (Or.inr rfl) hw (by omega) (by decide) (by decide)
  refine br_i (fun r => ?_) fun _ => ?_
  · -- same
    have cc := cc0 (by omega)
    have t := (hl (by omega)).1
    exact g_made2D hu h t.1 t.1 (by decide) (by decide) (by omega) fun t2 z hz _ z1 z2 => g_putCD hu hz (by omega) z1 z2 fun w hw _ => fin 1 w _ _ _ (Or.inr rfl) hw (by omega) (by decide) (by decide)
  refine br_i (fun r => ?_) fun _ => ?_
  · -- value
    have cc := cc0 (by omega)
    obtain ⟨t, _, t2⟩ := hl (by omega)
    have r1 := er 1 (by omega)
    have tx : ToldX a l := (t2.told aT).mp ((hR.told r).ext hu aE.1 r1.1 r1.2)
    refine g_told aT t (by omega) (by omega) (fun v y hE h60 hv => ?_) h.1.1.2.2.2.2.2.2.1
    obtain ⟨v0, v1, _⟩ := hv.resolve_left (fun z => z.2 tx)
    have yD := h.ep hu hE h60
    have yT := hE.1
    have y8 := yD.1.e8
    refine g_constantOf yT (by omega) v0 v1 fun k z hz k0 k1 hk _ => ?_
    have zD := yD.grow hu hz
    have zT := hz.1
    exact g_made2D hu zD ((t.1.ext aT hE.2.1).ext yT hz.extT) (IsT.cst k0 k1 zT hk) (by decide) (by decide) (by omega) fun t3 s hs _ s1 s2 => g_putCD hu hs (by omega) s1 s2 fun w hw _ => fin 1 w _ _ _ (Or.inr rfl) hw (by omega) (by decide) (by decide)
  refine br_i (fun r => ?_) fun _ => ?_
  · -- car
    have cc := cc0 (by omega)
    have t := (hl (by omega)).1
    have t' := hm (by omega) (by omega)
    exact g_made2D hu h t.1 t'.1 (by decide) (by decide) (by omega) fun p y hy yE y1 _ => g_made1D hu hy y1 (by decide) (by decide) (by omega) fun q z hz zE z1 _ => g_made2D hu hz z1 ((t.1.ext aT yE).ext hy.1.1.1.1 zE) (by decide) (by decide) (by omega) fun t3 s hs _ s1 s2 => g_putCD hu hs (by omega) s1 s2 fun w hw _ => fin 1 w _ _ _ (Or.inr rfl) hw (by omega) (by decide) (by decide)
  refine br_i (fun r => ?_) fun _ => ?_
  · -- cdr
    have cc := cc0 (by omega)
    have t := (hl (by omega)).1
    have t' := hm (by omega) (by omega)
    exact g_made2D hu h t.1 t'.1 (by decide) (by decide) (by omega) fun p y hy yE y1 _ => g_made1D hu hy y1 (by decide) (by decide) (by omega) fun q z hz zE z1 _ => g_made2D hu hz z1 ((t'.1.ext aT yE).ext hy.1.1.1.1 zE) (by decide) (by decide) (by omega) fun t3 s hs _ s1 s2 => g_putCD hu hs (by omega) s1 s2 fun w hw _ => fin 1 w _ _ _ (Or.inr rfl) hw (by omega) (by decide) (by decide)
  refine br_i (fun r => ?_) fun _ => ?_
  · -- consp
    have cc := cc0 (by omega)
    have t := (hl (by omega)).1
    have t' := hm (by omega) (by omega)
    exact g_made2D hu h t.1 t'.1 (by decide) (by decide) (by omega) fun p y hy yE y1 _ => g_made1D hu hy y1 (by decide) (by decide) (by omega) fun q z hz zE z1 z2 => g_putCD hu hz (by omega) z1 z2 fun w hw _ => fin 1 w _ _ _ (Or.inr rfl) hw (by omega) (by decide) (by decide)
  refine br_i (fun r => ?_) fun _ => ?_
  · -- then
    have cc := cc0 (by omega)
    have t := (hl (by omega)).1
    have t' := hm (by omega) (by omega)
    have t'' := hnn (by omega)
    exact g_notOfD hu h t (by omega) fun p y hy yE y1 y2 => g_putCD hu hy (by omega) y1 y2 fun z hz zE => by
      have azE := yE.tr aT zE
      exact g_made3D hu hz (ext azE t.1) (ext azE t'.1) (ext azE t''.1) (by omega) fun q s hs sE s1 _ => g_made2D hu hs s1 (ext (azE.tr aT sE) t'.1) (by decide) (by decide) (by omega) fun t3 s hs _ s1 s2 => g_putCD hu hs (by omega) s1 s2 fun w hw _ => fin 1 w _ _ _ (Or.inr rfl) hw (by omega) (by decide) (by decide)
  refine br_i (fun r => ?_) fun _ => ?_
  · -- else
    have cc := cc0 (by omega)
    have t := (hl (by omega)).1
    have t' := hm (by omega) (by omega)
    have t'' := hnn (by omega)
    exact g_putCD hu h (by omega) t.1 (fun _ => t.2) fun z hz zE => g_made3D hu hz (ext zE t.1) (ext zE t'.1) (ext zE t''.1) (by omega) fun q s hs sE s1 _ => g_made2D hu hs s1 (ext (zE.tr aT sE) t''.1) (by decide) (by decide) (by omega) fun t3 s hs _ s1 s2 => g_putCD hu hs (by omega) s1 s2 fun w hw _ => fin 1 w _ _ _ (Or.inr rfl) hw (by omega) (by decide) (by decide)
  have nth1 : ∀ {K : Int → iST → Prop}, K (el u o 1) a → w_nth o 1 K a := fun hK => s_nth aT hr.1 (by omega) (by decide) (by decide) (by rw [show (1 : Int).toNat = 1 from rfl, ee 1 (by omega)]; exact hK)
  refine br_i (fun r => nth1 ?_) fun _ => ?_
  · -- def
    have cc := cc0 (by omega)
    obtain ⟨d, d0, d1, d2⟩ := hR.def r
    refine s_definition aC.1.1 aC.1.2 fun d' hd => ?_
    rw [fx_a aF 36 rfl, fx_s aF 35 rfl] at hd
    obtain ⟨q0, q1, q2, q3⟩ := hd.resolve_left (fun z => z.2 d d0 d1 d2)
    exact g_defined hu h aC (by omega) q0 (by rw [fx_s aF 35 rfl]; exact q1) (fun e e1 e2 => by rw [fx_a aF 36 rfl, q2]; exact q3 e e1 e2) (by omega) fun w hw => fin 1 w _ _ _ (Or.inr rfl) hw (by omega) (by decide) (by decide)
  refine br_i (fun r => nth1 ?_) fun _ => ?_
  · -- thm
    have cc := cc0 (by omega)
    obtain ⟨k, k0, k1, k2⟩ := hR.thm r
    refine s_theoremOf aC.2.1.1 aC.2.1.2 fun d' hd => ?_
    rw [fx_a aF 43 rfl, fx_s aF 42 rfl] at hd
    obtain ⟨q0, q1, q2⟩ := hd.resolve_left (fun z => z.2 k k0 k1 k2)
    have k60 := hCu.2.1.2
    have tj := (aC.2.2.2.2 d' q0 (by rw [fx_s aF 42 rfl]; exact q1)).2.1
    exact bd_i q0 (by omega) (rd_i fun _ => g_putCD hu h (by omega) tj.1 (fun _ => tj.2) fun w hw _ => fin 1 w _ _ _ (Or.inr rfl) hw (by omega) (by decide) (by decide))
  refine br_i (fun r => ?_) fun _ => ?_
  · -- weak
    have cc := cc0 (by omega)
    have pf : pFr (u.2.1 0 o) = 2 := by unfold pFr; rw [r]; decide
    have pt : pTo (u.2.1 0 o) n = 3 := by unfold pTo; rw [r]; rfl
    have cz := hc 0 (Int.le_refl _) (by omega)
    rw [show x + 0 = x from by omega] at cz
    refine g_pour hu h (by omega) x0 (by omega) cz fun y hy yE => ?_
    have yT := hy.1.1.1.1
    have uyE := hy.1.ex
    have y8' := uyE.1.1.1
    have r1 := er 1 (by omega)
    refine s_nth yT hr.1 (by omega) (by decide) (by decide) ?_
    rw [show (1 : Int).toNat = 1 from rfl, el_ext uyE.1 hL 1 (by omega)]
    obtain ⟨N, w1, w2⟩ := hR.weak r
    have wl := len_wB hu w1
    have wp := w_pos hu r1.1 r1.2
    have ow := og.2.2.1 (Or.inl r)
    generalize hLs : el u o 1 = L at *
    have wle : wA u L ≤ 1000 - 3 := by
      have q := hw
      have := wB_dle hu hL 1 (by omega)
      have w' : wB u (dr u o 1) = wA u L + wB u (dr u o 2) := by rw [← hLs]; exact wB_dr hu hL (i := 1) (by omega)
      have q2 := wB_drp hu hL (i := 2) (by omega)
      obtain ⟨n', rfl⟩ : ∃ n', n = n' + 1 := ⟨n - 1, by omega⟩
      have w3 := w_rule hu hL (by omega) (by omega)
      omega
    unfold w_concludes_522
    refine lf1 (B := fun R y1 u => w_concludes_522b R Q y1 u) (fun y1 v => ∃ i : Nat, i ≤ N ∧ y1 = dr u L i ∧ CD u v (c + (wB u L - wB u (dr u L i))) 0 (30 + i)) (fun y1 _ => y1.toNat) ?_ ⟨0, by omega, rfl, hy.mono (by show c ≤ c + (wB u L - wB u L); omega) (Int.le_refl _) (by omega)⟩
    intro y1 v hI R ih
    obtain ⟨i, i1, rfl, iC⟩ := hI
    have hd := dr_r hu w1 i1
    have wd := wB_drp hu w1 i1
    have wd2 := wB_dle hu w1 i i1
    have vE := iC.1.ex
    have v8 := vE.1.1.1
    have vm := iC.1.1.1.1.2.1
    unfold w_concludes_522b
    refine br_i (fun _ => fin 1 v _ _ _ (Or.inr rfl) iC (by omega) (by decide) (by omega)) fun hz => ?_
    have hi : i < N := by
      rcases Nat.lt_or_ge i N with q | q
      · exact q
      · exact absurd ((dr_nz hu w1 i1).mpr (by omega)) hz
    have ed := wB_dr hu w1 hi
    have re := IsL.elr hu w1 i hi
    have ev := vE.1.2.1 _ hd.1 hd.2
    have ed2 := wB_drp hu w1 (i := i + 1) (by omega)
    have nx : dr u L (i + 1) = u.2.1 1 (dr u L i) := dr_next i L
    have el1 : el u L i = u.2.1 0 (dr u L i) := dr_el i L
    have pr := hu.pair hd.1 hd.2 (by rw [← el1]; exact re.1)
    refine bd_i hd.1 (by omega) (rd_i fun _ => ?_)
    rw [ev.1, ← el1]
    refine g_termCD hu iC re.1 re.2 (w2 i hi) (by omega) (by omega) fun t s hs sE st _ _ => g_putCD hu hs (by omega) st.1 (fun _ => st.2) fun z hz zE => ?_
    have zE' := hz.1.ex
    have z8 := zE'.1.1.1
    refine bd_i hd.1 (by have := hz.1.1.1.1.2.1; omega) (rd_i fun _ => ih _ _ ⟨i + 1, by omega, ?_, hz.mono (by omega) (Int.le_refl _) (by omega)⟩ ?_)
    · rw [(zE'.1.2.1 _ hd.1 hd.2).2.1, nx]
    · rw [(zE'.1.2.1 _ hd.1 hd.2).2.1]; omega
  refine br_i (fun r => ?_) fun _ => ?_
  · -- cut
    have cc := cc0 (by omega)
    have pf : pFr (u.2.1 0 o) = 2 := by unfold pFr; rw [r]; decide
    have pt : pTo (u.2.1 0 o) n = 4 := by unfold pTo; rw [r]; rfl
    have cz := hc 0 (Int.le_refl _) (by omega)
    rw [show x + 0 = x from by omega] at cz
    have cz1 := hc 1 (by decide) (by omega)
    have t := (hl (by omega)).1
    refine g_notOfD hu h t (by omega) fun p y hy yE y1 y2 => ?_
    have no : zt 0 (Q 0 y) := fin 0 y _ _ _ (Or.inl rfl) hy (by omega) (by decide) (by decide)
    exact g_has x0 (by omega) (hy.cz hu cz) fun b hb => br_i (fun _ => no) fun _ => ov_i (by omega) (by omega) (g_has (by omega) (by omega) (hy.cz hu cz1) fun b' hb' => br_i (fun _ => g_pour hu hy (by omega) x0 (by omega) cz fun z hz _ => ov_i (by omega) (by omega) (g_pour hu hz (by omega) (by omega) (by omega) cz1 fun w hw _ => fin 1 w _ _ _ (Or.inr rfl) hw (by omega) (by decide) (by decide))) fun _ => no)
  refine br_i (fun r => ?_) fun _ => ?_
  · -- inst
    have pf : pFr (u.2.1 0 o) = 1 := by unfold pFr; rw [r]; decide
    have pt : pTo (u.2.1 0 o) n = 2 := by unfold pTo; rw [r]; rfl
    have cc : CC u o n = 398 * owW u o n := by unfold CC; rw [if_neg (by omega), pf, pt]; omega
    have cz := hc 0 (Int.le_refl _) (by omega)
    rw [show x + 0 = x from by omega] at cz
    obtain ⟨M, hM⟩ := hR.inst r
    have ow := og.2.2.2.1 r
    have d1 := dr_r hu hL (i := 1) (by omega)
    have w2 := wB_drp hu hL (i := 2) (by omega)
    have wd := wB_dle hu hL 2 (by omega)
    have wo := w_pos hu hr.1 hr.2.1
    have ed : dr u o 2 = u.2.1 1 (u.2.1 1 o) := rfl
    rw [ed] at hM ow w2 wd
    exact g_instanced hu h (by omega) x0 (by omega) cz hr.1 hr.2.1 d1 hM (by omega) (by omega) fun w hw => fin 1 w _ _ _ (Or.inr rfl) hw (by omega) (by decide) (by decide)
  refine br_i (fun r => ?_) fun _ => ?_
  · -- swap
    have pf : pFr (u.2.1 0 o) = 1 := by unfold pFr; rw [r]; decide
    have pt : pTo (u.2.1 0 o) n = 2 := by unfold pTo; rw [r]; rfl
    have cc := cc0 (by omega)
    have cz := hc 0 (Int.le_refl _) (by omega)
    rw [show x + 0 = x from by omega] at cz
    have cza := h.cz hu cz
    refine g_beginsEqual aT x0 (by omega) cza fun b hb hbb => br_i (fun hz => ?_) fun _ => fin 0 a _ _ _ (Or.inl rfl) h (by omega) (by decide) (by decide)
    obtain ⟨q1, q2⟩ := hbb hz
    clear hbb
    have ht := cza.2.2.1 0 (Int.le_refl _) q1
    rw [show 30 * x + 0 = 30 * x from by omega] at ht
    have hr' := ht.1.r
    obtain ⟨e1, e2⟩ := equal_args aT ht q2
    refine ov_i (by omega) (by omega) (bd_i (by omega) (by omega) (rd_i fun _ => s_term aT hr'.1 hr'.2 (by decide) (by decide) (ov_i (by omega) (by omega) (bd_i (by omega) (by omega) (rd_i fun _ => s_term aT hr'.1 hr'.2 (by decide) (by decide) ?_)))))
    show w_made2 4 (el a (a.2.1 145 (30 * x)) 2) (el a (a.2.1 145 (30 * x)) 1) _ a
    exact g_made2D hu h e2.1 e1.1 (by decide) (by decide) (by omega) fun t3 s hs _ s1 s2 => g_putCD hu hs (by omega) s1 s2 fun w hw _ => ov_i (by omega) (by omega) (bd_i (by omega) (by omega) (rd_i fun _ => g_pour hu hw (by omega) x0 (by omega) cz fun z hz _ => fin 1 z _ _ _ (Or.inr rfl) hz (by omega) (by decide) (by decide)))
  refine br_i (fun r => ?_) fun _ => ?_
  · -- put
    have en : n = 3 := by omega
    have pf : pFr (u.2.1 0 o) = 1 := by unfold pFr; rw [r]; decide
    have pt : pTo (u.2.1 0 o) n = 3 := by unfold pTo; rw [r]; rfl
    have cc : CC u o n = 398 * owW u o n + 279 := by unfold CC; rw [if_neg (by omega), pf, pt]; omega
    have cz := hc 0 (Int.le_refl _) (by omega)
    rw [show x + 0 = x from by omega] at cz
    have cz1 := hc 1 (by decide) (by omega)
    exact g_replaced hu h (by omega) x0 (by omega) cz cz1 (by omega) fun b w hb hw => fin b w _ _ _ hb hw (by omega) (by decide) (by decide)
  · -- induct
    obtain ⟨r, hI⟩ := hR.ind (by omega)
    have pf : pFr (u.2.1 0 o) = 3 := by unfold pFr; rw [r]; decide
    have pt : pTo (u.2.1 0 o) n = n := by unfold pTo; rw [r]; rfl
    have cc : CC u o n = 398 * owW u o n - 879 + 279 * ((n : Int) - 3) := by unfold CC; rw [if_pos r, pf, pt]; omega
    obtain ⟨t, t1, _⟩ := hl (by omega)
    have r1 := er 1 (by omega)
    have tle := (t_le hu r1.1 r1.2).1
    have ts := t.2
    have tle := tle (by omega)
    have wp1 := w_pos hu r1.1 r1.2
    have ow := og.2.2.2.2 r
    exact g_inducts hu h hCu hL (by omega) hI x0 (by omega) (fun p p0 p1 => hc p p0 (by omega)) t (by omega) fun b w hb hw => fin b w _ _ _ hb hw (by omega) (by decide) (by decide)
theorem g_concludes {u : iST} {k : Int} {n : Nat} {Q : Int → iST → Prop} (hW : WI u) (hC : Core u) (h117 : u.1 117 = 0) (k0 : 0 ≤ k) (k1 : k < 40) (hx : FormOk u (u.2.1 141 k) n) (hw : wA u (u.2.1 141 k) ≤ 1000) (x0 : 0 ≤ u.2.1 143 k) (x1 : u.2.1 143 k + ((pTo (u.2.1 0 (u.2.1 141 k)) n : Int) - pFr (u.2.1 0 (u.2.1 141 k))) ≤ 340) (hc : ∀ p : Int, 0 ≤ p → p < (pTo (u.2.1 0 (u.2.1 141 k)) n : Int) - pFr (u.2.1 0 (u.2.1 141 k)) → Cz u (u.2.1 143 k + p)) (h8 : u.1 8 + CC u (u.2.1 141 k) n ≤ 450500) (h6 : u.1 6 < 39000) (hq : ∀ b y, bz b → CD u y (CC u (u.2.1 141 k) n) 2 1100 → Q b y) : w_concludes k Q u := by
  have hu := hW.1.1
  unfold w_concludes
  refine bd_i k0 k1 (rd_i fun _ => bd_i k0 k1 (rd_i fun _ => sw_i ?_))
  generalize u.2.1 141 k = o at *
  generalize u.2.1 143 k = x at *
  have og := own_ge hu hx
  have hr := hx.r
  have hn := hx.2.2.n
  have hR := hx.2.2
  have hL := hx.2.1
  have er : ∀ i, i < n → 0 ≤ el u o i ∧ el u o i < u.1 8 := fun i hi => IsL.elr hu hL i hi
  have aF : Fx fLq u (iI u 122 0) := Fx_I (k := 122) rfl
  obtain ⟨aZ, aE⟩ := (LZ.rf hW h117).same hu aF rfl rfl
  have aD : CD u (iI u 122 0) 0 0 0 := ⟨aZ, DR.none u, Int.le_refl _⟩
  clear aF aZ
  generalize iI u 122 0 = a at *
  have aT := aD.1.1.1.1
  have am := aT.2.1
  have a8 := aE.1.1.1
  have cpos : owW u o n ≤ CC u o n := by
    have hp := hx.parts
    unfold CC
    split
    · rename_i r
      have := og.2.2.2.2 r
      have r1 := er 1 (by omega)
      have := w_pos hu r1.1 r1.2
      omega
    · omega
  -- the rest with the terms that are read
  have fin : ∀ {a : iST} {c l m nn : Int}, CD u a c 0 0 → c + 3 ≤ owW u o n → (u.2.1 0 o ≤ 36 ∨ u.2.1 0 o = 40 → TJ a l ∧ sz a l = tS u (el u o 1) ∧ T2 a (el u o 1) l) → (32 ≤ u.2.1 0 o → u.2.1 0 o ≤ 36 → TJ a m) → (u.2.1 0 o = 35 ∨ u.2.1 0 o = 36 → TJ a nn) → w_concludes_184 Q o x l m nn a := fun hA h1 h2 h3 h4 => g_conc hu hC hA hx hw x0 x1 hc h1 h2 h3 h4 h8 h6 hq
  have lo : ∀ {v : iST}, Ext u v → v.2.1 0 o = u.2.1 0 o := fun hE => (hE.2.1 o hr.1 hr.2.1).1
  have k107 : (37 ≤ u.2.1 0 o ∧ u.2.1 0 o ≠ 40) → w_concludes_107 Q o x a := by
    intro z
    unfold w_concludes_107 w_concludes_108
    refine bd_i hr.1 (by omega) (rd_i fun _ => br_n (by rw [lo aE.1]; omega) (bd_i hr.1 (by omega) (rd_i fun _ => br_y (by rw [lo aE.1]; omega) ?_)))
    unfold w_concludes_145 w_concludes_146
    exact bd_i hr.1 (by omega) (rd_i fun _ => br_n (by rw [lo aE.1]; omega) (bd_i hr.1 (by omega) (rd_i fun _ => br_y (by rw [lo aE.1]; omega) (fin aD (by omega) (fun z => by omega) (fun z => by omega) (fun z => by omega)))))
  refine s_lengthOf aT hr.1 (by omega) (fun z => absurd (hL.ext hu aE.1) (z n)) fun n2 _ hl2 => ?_
  have := IsL_uniq aT hl2 (hL.ext hu aE.1)
  subst this
  refine br_n (by omega) (bd_i hr.1 (by omega) (rd_i fun _ => ?_))
  rw [lo aE.1]
  refine br_i (fun r => k107 (by omega)) fun _ => bd_i hr.1 (by omega) (rd_i fun _ => br_i (fun r => k107 (by omega)) fun _ => bd_i hr.1 (by omega) (rd_i fun _ => br_i (fun r => k107 (by omega)) fun _ => bd_i hr.1 (by omega) (rd_i fun _ => br_i (fun r => k107 (by omega)) fun _ => bd_i hr.1 (by omega) (rd_i fun _ => br_i (fun r => k107 (by omega)) fun _ => bd_i hr.1 (by omega) (rd_i fun _ => br_i (fun r => k107 (by omega)) fun _ => ?_)))))
  have rr : u.2.1 0 o ≤ 36 ∨ u.2.1 0 o = 40 := by omega
  have nth : ∀ {v : iST} {i : Int} {j : Nat} {K : Int → iST → Prop}, TI v → ExtT u v → i = j → j < n2 → j < 10 → K (el u o j) v → w_nth o i K v := fun {v i j K} hv hE hij hj h10 hK => s_nth hv hr.1 (by have := hE.1.1.1; omega) (by omega) (by omega) (by rw [hij, show ((j : Int)).toNat = j from by omega, el_ext hE.1 hL j hj]; exact hK)
  have r1 := er 1 (by omega)
  have wp1 := w_pos hu r1.1 r1.2
  have words : ∀ i : Nat, i < n2 → wA u (el u o i) ≤ 1000 := fun i hi => by
    have w1 := wB_dr hu hL hi
    have w2 := wB_drp hu hL (i := i + 1) (by omega)
    have w3 := wB_dle hu hL i (by omega)
    have := w_pos hu hr.1 hr.2.1
    omega
  have w1 : wB u (dr u o 1) = wA u (el u o 1) + wB u (dr u o 2) := wB_dr hu hL (i := 1) (by omega)
  have w2p := wB_drp hu hL (i := 2) (by omega)
  have o1 : wA u (el u o 1) + 3 ≤ owW u o n2 := by
    rcases (show u.2.1 0 o = 27 ∨ u.2.1 0 o = 40 ∨ (29 ≤ u.2.1 0 o ∧ u.2.1 0 o ≤ 38) by
      by_cases q : u.2.1 0 o < 29
      · exact Or.inl (hR.ind q).1
      · omega) with q | q | q
    · have := og.2.2.2.2 q; omega
    · have := og.2.2.1 (Or.inr q); omega
    · have := og.2.1 q.1 q.2; omega
  refine nth (j := 1) aT aE rfl (by omega) (by decide) (g_termCD hu aD r1.1 r1.2 (hR.t1 rr) (words 1 (by omega)) (by omega) fun l b hb _ l1 l2 l3 => ?_)
  have bE := hb.1.ex
  have b8 := bE.1.1.1
  have bT := hb.1.1.1.1
  have bm := bT.2.1
  have k146 : ∀ {m : Int}, (u.2.1 0 o < 32 ∨ 36 < u.2.1 0 o) → w_concludes_146 Q o x l m b := by
    intro m z
    unfold w_concludes_146
    exact bd_i hr.1 (by omega) (rd_i fun _ => br_n (by rw [lo bE.1]; omega) (bd_i hr.1 (by omega) (rd_i fun _ => br_y (by rw [lo bE.1]; omega) (fin hb (by omega) (fun _ => ⟨l1, l2, l3⟩) (fun z => by omega) (fun z => by omega)))))
  unfold w_concludes_108
  refine bd_i hr.1 (by omega) (rd_i fun _ => ?_)
  rw [lo bE.1]
  refine br_i (fun z => by unfold w_concludes_145; exact k146 (by omega)) fun z1 => bd_i hr.1 (by omega) (rd_i fun _ => br_i (fun z => by unfold w_concludes_145; exact k146 (by omega)) fun z2 => ?_)
  have r2 := er 2 (by omega)
  have wp2 := w_pos hu r2.1 r2.2
  have w2 : wB u (dr u o 2) = wA u (el u o 2) + wB u (dr u o 3) := wB_dr hu hL (i := 2) (by omega)
  have w3p := wB_drp hu hL (i := 3) (by omega)
  have og1 := og.2.1 (by omega) (by omega)
  refine nth (j := 2) bT bE rfl (by omega) (by decide) (g_termCD hu hb r2.1 r2.2 (hR.t2 (by omega) (by omega)) (words 2 (by omega)) (by omega) fun m d hd bd m1 m2 m3 => ?_)
  have dE := hd.1.ex
  have d8 := dE.1.1.1
  have dT := hd.1.1.1.1
  have dm := dT.2.1
  have l1d := l1.ext bT bd
  have l2d : sz d l = tS u (el u o 1) := by rw [bd.szx l1.1]; exact l2
  have l3d : T2 d (el u o 1) l := l3.ext bT bd.1 r1.1 (by omega) l1.1.r.1 l1.1.r.2
  have k170 : (u.2.1 0 o = 35 ∨ u.2.1 0 o = 36) → w_concludes_170 Q o x l m d := by
    intro z
    have r3 := er 3 (by omega)
    have wp3 := w_pos hu r3.1 r3.2
    have w3 : wB u (dr u o 3) = wA u (el u o 3) + wB u (dr u o 4) := wB_dr hu hL (i := 3) (by omega)
    have w4p := wB_drp hu hL (i := 4) (by omega)
    unfold w_concludes_170
    refine nth (j := 3) dT dE rfl (by omega) (by decide) (g_termCD hu hd r3.1 r3.2 (hR.t3 z) (words 3 (by omega)) (by omega) fun nn s hs ds n1 n2 n3 => ?_)
    exact fin hs (by omega) (fun _ => ⟨l1d.ext dT ds, by rw [ds.szx l1d.1]; exact l2d, l3d.ext dT ds.1 r1.1 (by omega) l1d.1.r.1 l1d.1.r.2⟩) (fun _ _ => m1.ext dT ds) (fun _ => n1)
  unfold w_concludes_146
  refine bd_i hr.1 (by omega) (rd_i fun _ => ?_)
  rw [lo dE.1]
  exact br_i (fun z => k170 (by omega)) fun z3 => bd_i hr.1 (by omega) (rd_i fun _ => br_i (fun z => fin hd (by omega) (fun _ => ⟨l1d, l2d, l3d⟩) (fun _ _ => m1) (fun z => by omega)) fun z => k170 (by omega))
