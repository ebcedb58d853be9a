/-! defun -/
def St (u v : iST) (c : Int) : Prop := Kp u v ∧ v.1 8 ≤ u.1 8 + c ∧ v.1 6 = u.1 6 ∧ v.1 11 = u.1 11 ∧ v.1 60 = u.1 60 ∧ v.1 61 = u.1 61 ∧ v.1 117 = u.1 117
/-- before a command -/
def Pre (u : iST) : Prop := WI u ∧ Core u ∧ u.1 54 = u.1 35 + u.1 42 ∧ u.1 8 ≤ 53000 ∧ u.1 6 ≤ 11000 ∧ u.1 60 = 0 ∧ u.1 61 = 0 ∧ u.1 117 = 0
theorem St.wi {u v : iST} {c : Int} (hP : Pre u) (h : St u v c) : WI v ∧ Core v := by
  obtain ⟨hW, hC, p3, p4, p5, p6, p7, p8⟩ := hP
  obtain ⟨k, s1, s2, s3, s4, s5, s6⟩ := h
  have hT := hW.1.1
  have hCv := k.core hT hC
  have e59 := fx_s k.2.2.2.2.2 59 rfl
  have h59 := hW.2.2.2.2.2.2.2
  have h60 := hW.2.2.2.2.2.2.1
  exact ⟨WI.mk k.1 hCv k.2.2.1 k.2.2.2.1 k.2.2.2.2.1 (by omega) (by omega) (by omega), hCv⟩
theorem St.rf {u : iST} (hP : Pre u) : St u u 0 := ⟨Kp.rf hP.1, by omega, rfl, rfl, rfl, rfl, rfl⟩
theorem Kp.fz {v w : iST} (hW : WI v) (hF : Fx fZ v w) (hL : w.2.2 = v.2.2) : Kp v w := (SP.sameL hW (hF.mono fZ_Lq) hL).kp
theorem fZ_t : ∀ k, k ≤ 11 → fZ k = false := fun k hk => by simp [fZ]; omega
theorem St.fz {u v w : iST} {c : Int} (hP : Pre u) (h : St u v c) (hF : Fx fZ v w) (hL : w.2.2 = v.2.2) : St u w c := by
  obtain ⟨hW, hC⟩ := h.wi hP
  obtain ⟨k, s1, s2, s3, s4, s5, s6⟩ := h
  exact ⟨k.tr hP.1.1.1 (Kp.fz hW hF hL), by rw [fx_s hF 8 rfl]; exact s1, by rw [fx_s hF 6 rfl]; exact s2, by rw [fx_s hF 11 rfl]; exact s3, by rw [fx_s hF 60 rfl]; exact s4, by rw [fx_s hF 61 rfl]; exact s5, by rw [fx_s hF 117 rfl]; exact s6⟩
theorem fV_Z : ∀ k, fZ k = false → fV k = false := fun k hk => by simp [fZ] at hk; simp [fV]; omega
theorem fK_Z : ∀ k, fZ k = false → fK k = false := fun k hk => by simp [fZ] at hk; simp [fK]; omega
theorem Kp.told {v z w : iST} {a b : Int} (h69 : v.1 69 = 0) (h71 : v.1 71 = 0) (hv : TI v) (g : Grow v z a b) (t : TPost (iI z 16 0) w) : Kp v w := by
  obtain ⟨g1, g2, g3, g4, g5, g6, g7⟩ := g
  obtain ⟨t1, t2, t3, t4⟩ := t
  have hE : ExtT v z := Grow.extT ⟨g1, g2, g3, g4, g5, g6, g7⟩
  have tab : ∀ k, k ≤ 11 → w.1 k = z.1 k ∧ w.2.1 k = z.2.1 k := fun k hk => by
    have := t2 k (by simp [fO]; omega)
    exact ⟨this.1.trans (if_neg (by omega)), this.2⟩
  have hF : Fx (fun k => fO k || decide (k = 16)) z w := fun k hk => by
    simp only [Bool.or_eq_false_iff, decide_eq_false_iff_not] at hk
    exact ⟨(t2 k hk.1).1.trans (if_neg hk.2), (t2 k hk.1).2⟩
  have hE2 : ExtT z w := ExtT.same tab t3 (SameF.of hF rfl rfl rfl rfl rfl)
  refine ⟨TI_eq g1 tab t3, hE.tr hv hE2, by rw [fx_s hF 69 rfl, fx_s g4 69 rfl]; exact h69, by rw [fx_s hF 71 rfl, fx_s g4 71 rfl]; exact h71, t1, fun k hk => ?_⟩
  have h1 : fT k = false := by simp [fA] at hk; simp [fT]; omega
  have h2 : (fO k || decide (k = 16)) = false := by simp [fA] at hk; simp [fO]; omega
  exact ⟨(hF k h2).1.trans (g4 k h1).1, (hF k h2).2.trans (g4 k h1).2⟩
theorem AllT.and {u : iST} (hT : TI u) {S S' : Int → Prop} {o : Int} (h : AllT u S o) (g : AllT u S' o) : AllT u (fun x => S x ∧ S' x) o := by
  refine ⟨fun x => AllT u S x ∧ AllT u S' x, fun x hx => ⟨⟨hx.1.step.1, hx.2.step.1⟩, fun z => ?_⟩, h, g⟩
  obtain ⟨n, a, b⟩ := hx.1.step.2 z
  obtain ⟨m, c, d⟩ := hx.2.step.2 z
  have := IsL_uniq hT a c
  subst this
  exact ⟨n, a, AllE_of fun i hi => ⟨b.el i hi, d.el i hi⟩⟩
theorem Ar_coming {f : Int} {N n : Nat} {v : iST} (f16 : 16 < f) (h : Ar (gh f N v) f n) : n = N := by
  obtain ⟨r, h1, h2, h3⟩ := h
  rcases h1 with ⟨a, b, c⟩ | ⟨a, b, c⟩ | ⟨a, b, d⟩ | ⟨a, b, d⟩
  · omega
  · rw [c] at h3
    have h3 : (N : Int) = n := h3
    omega
  · exact absurd rfl b
  · exact absurd rfl b
theorem TJ.allT {u : iST} (hT : TI u) {o : Int} (h : TJ u o) : AllT u (TJ u) o := ⟨TJ u, fun x hx => ⟨hx, fun z => by
  obtain ⟨n, a, b, c, d⟩ := hx.args hT z
  exact ⟨n, c, d⟩⟩, h⟩
theorem sumT_gh {f n : Int} {v : iST} {r : Int → Int} : ∀ {m : Nat}, sumT (gh f n v) r m = sumT v r m := by
  intro m
  induction m with
  | zero => rfl
  | succ m ih => show sumT (gh f n v) r m + sz v (r m) = sumT v r m + sz v (r m); rw [ih]
theorem g_defun281 {u z : iST} {f l body m self keep y0 : Int} {Q : Int → iST → Prop} (hz : Kp u z) (hu : TI u) (h4 : ∀ v, Kp u v → Q 4 v) (h5 : ∀ v, Kp u v → Q 5 v) (hL : z.1 61 = 0 → y0 = 0 → LR z ∧ (∀ r, 0 ≤ r → r < z.1 117 → Cl z r) ∧ z.1 117 ≤ 2300 ∧ z.1 8 + 640 ≤ 452000) (h3 : y0 ≠ 0 → z.1 61 = 0 → w_defun_303 Q f l body m self keep z) : w_defun_281 Q f l body m self keep y0 z := by
  unfold w_defun_281
  refine rd_i fun _ => br_i (fun h0 => br_i (fun hy => h3 hy h0) fun hy => ?_) fun _ => h4 z hz
  obtain ⟨a1, a2, a3, a4⟩ := hL h0 (by omega)
  exact g_tellLeft hz.1 hz.2.2.2.2.1 a1 a2 a3 a4 fun t v hg ht => h5 v (hz.tr hu (Kp.told hz.2.2.1 hz.2.2.2.1 hz.1 hg ht))
theorem g_defun198 {u w : iST} {f l body m self c : Int} {N : Nat} {Q : Int → iST → Prop} (hP : Pre u) (h : St u w c) (hc : c ≤ 2000) (D : DNew w f l body m self N) (hm : self ≠ 0 → TJ w m) (hqA : ∀ b v, Kp u v → b ≠ 0 → Q b v) (hqB : ∀ v, CB u v c → Q 0 v) : w_defun_198 Q f l body m self w := by
  have hu := hP.1.1.1
  obtain ⟨wW, wC⟩ := h.wi hP
  have wT := wW.1.1
  obtain ⟨hb, hv, hl, hN, hvar, f16, f1, hf, hself, hm2⟩ := D
  obtain ⟨kw, s1, s2, s3, s4, s5, s6⟩ := h
  have u8 := hP.2.2.2.1
  have u6 := hP.2.2.2.2.1
  have u60 := hP.2.2.2.2.2.1
  have hb2 := hb.2
  have hb2 : sz w body ≤ 120 := hb2
  have hG : GI (gh f N w) := ⟨gh_ti wT, ⟨wC.di.1, wC.di.2.1, wC.di.2.2.1, fun _ => ⟨f16, f1, hf, by show (0 : Int) ≤ (N : Int); omega, by show (N : Int) ≤ 6; omega⟩⟩, wW.1.2.2.1, wW.1.2.2.2⟩
  unfold w_defun_198
  refine rd_i fun _ => g_pathsGh hG hb (by omega) fun v p1 p2 p3 p4 p5 p6 p7 p8 p9 p10 => ?_
  have pF := p1.2.2.1
  have vT : TI v := TI_eq p1.1.1 gh_t' rfl
  have v57 : v.1 57 = -1 := p2.trans wC.2.2.1
  have vE : ExtT w v := ExtT.mk0 ⟨p1.2.1.1.1, p1.2.1.1.2⟩ (fun x hx => p1.2.1.2.1 x (gh_w' hx)) (fx_s pF 35 rfl) (fx_a pF 36 rfl) (fx_a pF 37 rfl) wC.2.2.1 v57
  have e60 : v.1 60 = w.1 60 := fx_s pF 60 rfl
  have e59 : v.1 59 = w.1 59 := fx_s pF 59 rfl
  have e6 : v.1 6 = w.1 6 := p1.2.2.2.1
  have w59 := wW.2.2.2.2.2.2
  have hSP : SP fLy w v 240 0 := by
    refine ⟨vT, vE, fun k hk => ?_, p1.1.2.2.1, p1.1.2.2.2, by omega, by omega, by omega, by omega, p1.2.2.2.2.1, OI_eq wW.2.2.2.1 (fx_s pF 16 rfl) (fx_s pF 22 rfl)⟩
    have hk2 : fPt k = false := by simp [fLy, fC, fJ, fM] at hk; simp [fPt, fB]; omega
    have := pF k hk2
    by_cases k7 : k = 57
    · subst k7; exact ⟨p2, this.2⟩
    · by_cases k8 : k = 58
      · subst k8; exact ⟨p3, this.2⟩
      · exact ⟨(gh_s k7 k8).symm.trans (this.1.trans (gh_s k7 k8)), this.2⟩
  have vW := hSP.wiL wW
  have kv : Kp u v := kw.tr hu hSP.kp
  have hPW : ∀ p, 0 ≤ p → p < v.1 126 → PW v p := fun p q0 q1 => by
    obtain ⟨a, b, c', d, _⟩ := p6 p q0 q1
    exact ⟨gh_w a.1.w, a.2, b, c', fun i i0 i1 => ⟨gh_w (d i i0 i1).1.w, (d i i0 i1).2⟩⟩
  refine g_areApart vT f16 p5 hPW fun b v2 _ hF2 hL2 hAp => br_i (fun hb0 => ?_) fun _ => hqA 2 v2 (kv.tr hu (Kp.fz vW (hF2.mono fFd_Z) hL2)) (by decide)
  have kv2' : Kp v v2 := Kp.fz vW (hF2.mono fFd_Z) hL2
  have kv2 : Kp u v2 := kv.tr hu kv2'
  have v2S : SP fLy v v2 0 0 := SP.sameL vW ((hF2.mono fFd_Z).mono fZ_Lq) hL2
  have v2W := v2S.wiL vW
  have kwv2 : Kp w v2 := hSP.kp.tr wT kv2'
  have e35 : v2.1 35 = w.1 35 := fx_s kwv2.2.2.2.2.2 35 rfl
  have e36 : v2.2.1 36 = w.2.1 36 := fx_a kwv2.2.2.2.2.2 36 rfl
  refine s_definition (by rw [e35]; exact wC.1.1) (by rw [e35]; exact wC.1.2) fun r hr => br_i (fun hr1 => ?_) fun _ => hqA 3 v2 kv2 (by decide)
  have hno : ∀ e, 0 ≤ e → e < w.1 35 → w.2.1 36 e ≠ f := by
    rcases hr with ⟨_, hr⟩ | ⟨r0, _⟩
    · rw [e35, e36] at hr; exact hr
    · omega
  refine rd_i fun _ => br_i (fun h40 => ?_) fun _ => hqA 8 v2 kv2 (by decide)
  rw [e35] at h40
  have h35 : w.1 35 < 40 := by have := wC.1.2; omega
  have w54 : w.1 54 = w.1 35 + w.1 42 := by
    have hF := kw.2.2.2.2.2
    rw [fx_s hF 54 rfl, fx_s hF 35 rfl, fx_s hF 42 rfl]; exact hP.2.2.1
  have t1 := wC.1.1
  have t2 := wC.2.1
  have hApv := hAp hb0
  have bodyr := (gh_w hb.1.w).r
  have hap : AllT w (Arg1 w f) body := by
    refine p10 (fun x => AllT w (Arg1 w f) x) (fun t ht h3 g1 g2 g3 => ?_) (fun j hj => by omega) (fun p q0 q1 => ?_)
    · have h3 : w.2.1 0 t = 3 := h3
      obtain ⟨n, n6, har, hln, hal⟩ := ht.args (gh_ti wT) ⟨by show 0 ≤ w.2.1 0 t; omega, by show w.2.1 0 t ≠ 2; omega⟩
      have : n = 3 := har.fun (Ar_base (by show 3 ≤ w.2.1 0 t; omega) (by show w.2.1 0 t ≤ 16; omega) (Or.inl ⟨h3, rfl⟩))
      subst this
      have hl3 : IsL w (w.2.1 1 t) 3 := hln.eq gh_t'
      rw [el_gh] at g1 g2 g3
      refine ⟨fun y => y = t ∨ AllT w (Arg1 w f) y, fun y hy => ?_, Or.inl rfl⟩
      rcases hy with rfl | hy
      · refine ⟨fun hc => by omega, fun _ => ⟨3, hl3, AllE_of fun i hi => Or.inr ?_⟩⟩
        rcases (show i = 0 ∨ i = 1 ∨ i = 2 by omega) with rfl | rfl | rfl
        · exact g1
        · exact g2
        · exact g3
      · obtain ⟨s1', s2'⟩ := hy.step
        refine ⟨s1', fun z => ?_⟩
        obtain ⟨n', c1', c2'⟩ := s2' z
        exact ⟨n', c1', c2'.imp (fun x hx => Or.inr hx)⟩
    · obtain ⟨g1, g2⟩ := hApv p q0 q1
      have er := (gh_w (p9 p q0 q1).1.w).r
      refine ⟨AllT.down wT vE.1 (fun x x0 x1 hx => hx.down wT vE.1 x0 x1) er.1 er.2 g2, fun i i0 i1 i2 => ?_⟩
      have hr := (gh_w ((p6 p q0 q1).2.2.2.1 i i0 i1).1.w).r
      have i2 : v.2.1 124 (64 * p + i) < w.1 8 := i2
      refine (NoF.down wT vE.1 hr.1 i2 (g1 i i0 i1)).mono (fun x hx hc => absurd hc hx)
  have D' : DNew w f l body m self N := ⟨hb, hv, hl, hN, hvar, f16, f1, hf, hself, hm2⟩
  have end303 : ∀ z, Kp w z → w_defun_303 Q f l body m self (w.1 8) z := fun z hz => g_defun303 wT wC h35 (by omega) (by omega) D' hno hap hz fun v hv => hqB v (by
    have := Kp.cb hu kw s1 (by omega) (by omega) hv
    rw [show c + 0 = c from by omega] at this
    exact this)
  refine br_i (fun _ => end303 v2 kwv2) fun hs1 => sw_i ?_
  have hAp := hAp hb0
  have F3 : Fx fLq v2 (iI v2 117 0) := Fx_I (k := 117) rfl
  have v3S : SP fLy v2 (iI v2 117 0) 0 0 := SP.sameL v2W F3 rfl
  have v3W := v3S.wiL v2W
  have v3117 : (iI v2 117 0).1 117 = 0 := rfl
  have Ev3 : ExtT v (iI v2 117 0) := kv2'.2.1.tr vT v3S.2.1
  have r126 : (iI v2 117 0).1 126 = v.1 126 := fx_s hF2 126 rfl
  have r123 : (iI v2 117 0).2.1 123 = v.2.1 123 := fx_a hF2 123 rfl
  have r124 : (iI v2 117 0).2.1 124 = v.2.1 124 := fx_a hF2 124 rfl
  have r125 : (iI v2 117 0).2.1 125 = v.2.1 125 := fx_a hF2 125 rfl
  have r8 : (iI v2 117 0).1 8 = v.1 8 := fx_s hF2 8 rfl
  have r60 : (iI v2 117 0).1 60 = v.1 60 := fx_s hF2 60 rfl
  have r59 : (iI v2 117 0).1 59 = v.1 59 := fx_s hF2 59 rfl
  have r6 : (iI v2 117 0).1 6 = v.1 6 := fx_s hF2 6 rfl
  have r54 : ∀ z : iST, (∀ k, k ≤ 11 → z.1 k = v.1 k ∧ z.2.1 k = v.2.1 k) → ∀ (g : Int → Int) (n : Nat), sumT z g n = sumT v g n := by
    intro z hz g n
    induction n with
    | zero => rfl
    | succ n ih => show sumT z g n + sz z (g n) = sumT v g n + sz v (g n); rw [ih, sz_t hz]
  have tz : ∀ k, k ≤ 11 → (iI v2 117 0).1 k = v.1 k ∧ (iI v2 117 0).2.1 k = v.2.1 k := fun k hk => ⟨(if_neg (by omega)).trans (hF2 k (fFd_t k hk)).1, (hF2 k (fFd_t k hk)).2⟩
  have kv3 : Kp w (iI v2 117 0) := kwv2.tr wT v3S.kp
  have S3 := r54 _ tz
  generalize iI v2 117 0 = v3 at *
  have hpaths : PathsOk v f N := by
    refine ⟨p4, p5, fun p q0 q1 => ?_⟩
    obtain ⟨a, b', c', d, sm⟩ := p6 p q0 q1
    obtain ⟨g1, g2⟩ := hAp p q0 q1
    refine ⟨⟨⟨gh_w a.1.w, a.2⟩, ?_⟩, b', c', fun i i0 i1 => gh_tj vT v57 (d i i0 i1) (g1 i i0 i1), by rw [← sumT_gh (f := f) (n := N)]; exact sm⟩
    have A1 : AllT v (TJ (gh f N v)) (v.2.1 123 p) := AllT.eq gh_t' (TJ.allT (gh_ti vT) a)
    refine (A1.and vT g2).mono (fun x hx hcf => ?_)
    obtain ⟨hx1, hx2⟩ := hx
    obtain ⟨n, n6, har, hln, hal⟩ := hx1.args (gh_ti vT) ⟨hcf.1, by show v.2.1 0 x ≠ 2; omega⟩
    have hl2 : IsL v (v.2.1 1 x) n := hln.eq gh_t'
    have har2 : Ar (gh f N v) (v.2.1 0 x) n := har
    rw [hcf.2] at har2
    have := Ar_coming f16 har2
    subst this
    refine ⟨hl2, fun i hi => ?_⟩
    have := hal.el i hi
    rw [el_gh] at this
    exact gh_tj vT v57 this (hx2 hcf n i hl2 hi)
  have lr := hl.r (by have := wT.1; omega)
  have Ew3 : ExtT w v3 := kv3.2.1
  have v38 := Ew3.1.1.1
  refine g_measureRows v3W (by omega) (hpaths.ext vT Ev3 r126 r123 r124 r125) v3117 (hl.ext wT Ew3.1) lr.1 (by omega) hN ((hm (by omega)).ext wT Ew3) (by rw [r123, r126, S3]; omega) (by omega) fun v4 hv4 hr4 e4 => rd_i fun _ => ?_
  have k4 : Kp w v4 := kv3.tr wT hv4.2.1.kp
  have ku4 : Kp u v4 := kw.tr hu k4
  refine br_i (fun h61 => ?_) fun h61 => ?_
  · unfold w_defun_280
    exact g_defun281 ku4 hu (fun v hv => hqA 4 v hv (by decide)) (fun v hv => hqA 5 v hv (by decide)) (fun z => absurd z h61) (fun z => absurd rfl z)
  · have hPI : PI v4 v4 0 0 := ⟨hv4.1, SP.rf hv4.1, hv4.2.2.2, hv4.2.2.1⟩
    have hsp := hv4.2.1
    obtain ⟨z1, z2, z3, z4, z5, z6, z7, z8, z9, z10, z11⟩ := hsp
    have z59 : v4.1 59 = v3.1 59 := fx_s z3 59 rfl
    have h1000 := w59.2
    have hBud : BudP v4 := ⟨by omega, by omega⟩
    refine g_prove hPI hBud (by omega) fun b' v5 _ q1 q2 q3 _ => ?_
    have k5' : Kp v4 v5 := (q1.2.1.up fC_L).kp
    have k5 : Kp w v5 := k4.tr wT k5'
    have ku5 : Kp u v5 := kw.tr hu k5
    have bd8 : v5.1 8 + 640 ≤ 452000 := by
      have h1 := q1.2.1.2.2.2.2.2.2.2.1
      have h2 := q1.1.2.2.2.2.2.2.1
      have h3 := fx_s q1.2.1.2.2.1 59 rfl
      have h4 := q1.2.1.2.2.2.2.2.1
      omega
    refine br_i (fun _ => ?_) fun _ => ?_
    · unfold w_defun_280
      exact g_defun281 ku5 hu (fun v hv => hqA 4 v hv (by decide)) (fun v hv => hqA 5 v hv (by decide)) (fun z _ => ⟨q2, q1.2.2.1, (q3 z).2, bd8⟩) (fun z => absurd rfl z)
    · exact g_defun281 ku5 hu (fun v hv => hqA 4 v hv (by decide)) (fun v hv => hqA 5 v hv (by decide)) (fun _ z => absurd z (by decide)) (fun _ _ => end303 v5 k5)
