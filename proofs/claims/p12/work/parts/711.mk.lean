-- deps: 710
/-! the class: replacements, readings, calls, negations -/
theorem pc_replace [DecidableEq Ob] {α : Type} {k B : Int} {n r : Nat → Bool} {Q : Int → iST → Prop} {u v : iST} {E : Sp.Env} {R : EStateM.Result Unit Sp.Wk α} {K : Ob → Sp.M α} (hP : PdK B n r u v R (Sp.bd (Sp.big (Ob.rpM (oc v (v.1 40)) (oc v (v.1 41)) false (oc v k)) (Ob.csM false (oc v k)).toNat) K)) (hn : ∀ k, n k = false → f8B k = false) (hr : ∀ k, r k = false → f8W k = false) (fit : Fit B R) (hK : ∀ a, Mono (K a)) (h6 : ∀ f, Sp.arOf E f ≤ 6) (hk : NdC v E k) (h40 : VN v (v.1 40)) (h41 : NdC v E (v.1 41)) (hw : Ob.wt (Sp.arOf E) (Ob.rpM (oc v (v.1 40)) (oc v (v.1 41)) false (oc v k)))
    (hq : ∀ t w, CG f8B f8W v w → (v.1 32 ≠ 0 → w.1 32 ≠ 0) → NdD w E t → PdK B n r u w R (K (oc w t)) → (t = -1 → w.1 32 ≠ 0) → Q t w) : pv_10_rebuilt k 2 Q v := by
  have hT := hP.1.1
  have hM : MuH v 2 (muP (oc v (v.1 40)) (oc v (v.1 41))) := by
    intro x j P gx hj hp
    have e40 := gx.2.2.1 40 (by decide)
    have e41 := gx.2.2.1 41 (by decide)
    refine ⟨fun _ => pc_meaningP gx.1 hj (by rw [e40]; exact h40.up gx) (by rw [e41]; exact h41.1.up gx) (fun r hr => hp r ?_), fun z => by cases z⟩
    rw [e40, e41, gx.oc hT h40.1 h40.2, gx.oc hT h41.1.1 h41.1.2] at hr
    exact hr
  have hsz := hk.2.2
  have hdp := dp_sz false (oc v k)
  have hsz' : Ob.szM false (oc v k) ≤ 120 := hsz
  have hcs := (csM_it false (oc v k)).1
  have hroom : v.1 32 = 0 → v.1 29 + Ob.csM false (oc v k) ≤ 160000 := fun z => by
    have := PdK.room hP fit hK z
    omega
  refine pc_rebuiltG hT hM (fun _ o => by unfold muP; split; (intro z; cases z); split <;> (intro z; cases z)) hk.1 (ok6_P h6 false _ hk.2.1) (by omega) (by omega) hroom (fun t w gw w29 wd hor => ?_)
  obtain ⟨r1, r2⟩ := rbP_eq (x0 := oc v (v.1 40)) (y0 := oc v (v.1 41)) h41.2.2 false (oc v k) hk.2.1
  have hle := gw.le
  rcases hor with ⟨ht, hn1, hw1, _⟩ | ⟨ht, hs⟩
  · have w32 := hw1 (by decide)
    refine hq t w gw wd ⟨by omega, by have := hT.1.1.1; omega, fun z => absurd z w32⟩ ?_ (fun _ => w32)
    refine PdK.step (o := oc w t) hP gw hn hr wd (fun s hls => ⟨fun z => absurd z w32, fun _ => ⟨_, big_err (r2 (hn1 hls.1)), rfl⟩⟩)
  · have ex : v.1 32 = 0 → w.1 32 = 0 ∧ oc w t = Ob.rpM (oc v (v.1 40)) (oc v (v.1 41)) false (oc v k) ∧ (Ob.rpM (oc v (v.1 40)) (oc v (v.1 41)) false (oc v k)).sz ≤ 120 := fun z => by
      obtain ⟨a1, a2⟩ := hs z
      obtain ⟨b1, b2⟩ := r1 _ a2
      exact ⟨a1, b1, by rw [← b1]; exact b2 rfl⟩
    have hl0 : w.1 32 = 0 → v.1 32 = 0 := fun z => by
      by_cases q : v.1 32 = 0
      · exact q
      · exact absurd z (wd q)
    refine hq t w gw wd ⟨by have := ht.1; omega, ht.2, fun z => ?_⟩ ?_ (fun z => by have := ht.1; omega)
    · obtain ⟨_, b, c⟩ := ex (hl0 z)
      exact ⟨ht, by rw [b]; exact hw, by rw [b]; exact c⟩
    · refine PdK.step (o := oc w t) hP gw hn hr wd (fun s hls => ⟨fun z => ?_, fun z => absurd (ex hls.1).1 z⟩)
      obtain ⟨_, b, c⟩ := ex hls.1
      refine ⟨(s.1, s.2 + (Ob.csM false (oc v k)).toNat), by rw [b]; exact big_ok c, rfl, ?_⟩
      have := hls.2.2
      show w.1 29 ≤ B + ((s.2 + (Ob.csM false (oc v k)).toNat : Nat) : Int)
      omega
/-- an object of a text is read as a term -/
theorem pc_read [DecidableEq Ob] {k : Int} {Q : Int → iST → Prop} {u : iST} {E : Sp.Env} {ar : Ob → Int} (hT : CT u) (hD : DOc u E) (hA : ArC u E ar) (h6 : ∀ f, ar f ≤ 6) (hs0 : ∀ f : Ob, f.isSym = false → ar f = -1) (hk : VN u k) (hd : dpM false (oc u k) < 128) (hs : (oc u k).sz ≤ 1000000) (h32 : u.1 32 = 0) (hroom : u.1 29 + Ob.csM false (oc u k) ≤ 160000)
    (hq : ∀ r v, CG f8B f8W u v → v.1 29 ≤ u.1 29 + Ob.csM false (oc u k) → v.1 32 = 0 → ((r = -1 ∧ Ob.rdT ar (oc u k) = none) ∨ (VN v r ∧ Ob.wt ar (oc v r) ∧ (oc v r).sz ≤ 120 ∧ Ob.rdT ar (oc u k) = some (oc v r))) → Q r v) : pv_10_rebuilt k 0 Q u := by
  have hM : MuH u 0 (muR ar) := by
    intro x j P gx hj hp
    have hD' := hD.mono hT gx (gx.2.2.1 0 (by decide)) (fun k hk => gx.2.2.2 k (by unfold f8W; simp only [Bool.or_eq_false_iff, decide_eq_false_iff_not]; omega))
    have hA' : ArC x E ar := by
      rcases hA with ⟨q1, q2⟩ | ⟨q1, q2⟩
      · exact Or.inl ⟨by rw [gx.2.2.1 37 (by decide)]; exact q1, q2⟩
      · refine Or.inr ⟨by rw [gx.2.2.1 37 (by decide)]; exact q1.up gx, ?_⟩
        rw [gx.2.2.1 37 (by decide), gx.2.2.1 38 (by decide), gx.oc hT q1.1 q1.2]
        exact q2
    exact ⟨fun z => absurd rfl z, fun _ => pc_readMeaning gx.1 hD' hA' hj (fun r hr => hp r hr)⟩
  refine pc_rebuiltG hT hM (fun z => absurd rfl z) hk (ok6_R h6 false _) hd hs (fun _ => hroom) (fun t w gw w29 wd hor => ?_)
  rw [rbR_T] at hor
  rcases hor with ⟨ht, hn1, _, hz⟩ | ⟨ht, hs1⟩
  · exact hq t w gw w29 (hz rfl h32) (Or.inl ⟨ht, hn1 h32⟩)
  · obtain ⟨a1, a2⟩ := hs1 h32
    obtain ⟨b1, b2⟩ := rdT_wt hs0 a2
    exact hq t w gw w29 a1 (Or.inr ⟨ht, b1, b2, a2⟩)
/-- a call is made of its terms -/
theorem pc_call48 [DecidableEq Ob] {α : Type} {f a y B : Int} {F A Y : Ob} {c : Nat} {n r : Nat → Bool} {Q : Int → iST → Prop} {u v : iST} {E : Sp.Env} {R : EStateM.Result Unit Sp.Wk α} {K : Ob → Sp.M α} {u1 : iST} (hP : PdK B n r u v R (Sp.bd (Sp.big (.pr F (.pr A Y)) c) K)) (hn : ∀ k, n k = false → f8B k = false) (hr : ∀ k, r k = false → f8W k = false) (fit : Fit B R) (hK : ∀ a, Mono (K a))
    (g1 : CG f8M f8R v u1) (hc : u1.1 29 + 2 ≤ v.1 29 + (c : Int)) (hf : VN v f ∧ oc v f = F) (ha : a < u1.1 29 ∧ (v.1 32 = 0 → 0 ≤ a ∧ oc u1 a = A)) (hy : VN u1 y ∧ (v.1 32 = 0 → oc u1 y = Y)) (hw : v.1 32 = 0 → Ob.wt (Sp.arOf E) (.pr F (.pr A Y)))
    (hq : ∀ t w, CG f8B f8W v w → (v.1 32 ≠ 0 → w.1 32 ≠ 0) → NdD w E t → PdK B n r u w R (K (oc w t)) → (t = -1 → w.1 32 ≠ 0) → Q t w) : pv_10_call_48 Q f a y u1 := by
  have hT := hP.1.1
  have e32 : u1.1 32 = v.1 32 := g1.2.2.1 32 (by decide)
  have hroom : v.1 32 = 0 → v.1 29 + (c : Int) ≤ 160000 := fun z => PdK.room hP fit hK z
  have hd : ∀ x : Int, x + 1 ≤ v.1 29 + (c : Int) → x < 160000 ∨ v.1 32 ≠ 0 := fun x hx => by
    by_cases q : v.1 32 = 0
    · have := hroom q; exact Or.inl (by omega)
    · exact Or.inr q
  unfold pv_10_call_48
  refine pc_pairG g1.1 ha.1 hy.1.2 (by rw [e32]; exact hd _ (by omega)) (fun k1 v1 gv1 vk1 ek1 h1 => ?_)
  have e32' : v1.1 32 = v.1 32 := by rw [gv1.2.2.1 32 (by decide), e32]
  have g2 := g1.tr gv1
  have hf2 := hf.1.up g2
  refine pc_pairG gv1.1 hf2.2 vk1.2 (by rw [e32']; exact hd _ (by omega)) (fun k2 v2 gv2 vk2 ek2 h2 => ?_)
  have e32'' : v2.1 32 = v.1 32 := by rw [gv2.2.2.1 32 (by decide), e32']
  have g3 := g2.tr gv2
  have ex : v.1 32 = 0 → oc v2 k2 = .pr F (.pr A Y) := fun z => by
    have hr := hroom z
    rw [ek2 (by omega) hf2.1 vk1.1, ek1 (by omega) (ha.2 z).1 hy.1.1, g2.oc hT hf.1.1 hf.1.2, hf.2, (ha.2 z).2, hy.2 z]
  refine pc_sizeOf gv2.1 vk2 ?_
  have hs : szC (oc v2 k2) ≤ 120 ↔ (oc v2 k2).sz ≤ 120 := by
    unfold szC
    split <;> omega
  have gB : CG f8B f8W v v2 := g3.mono f8M_B f8R_W
  refine ⟨fun h => ?_, fun h => ?_⟩
  · have hsz := hs.mp h
    refine hq k2 v2 gB (fun z => by rw [e32'']; exact z) ⟨by have := vk2.1; omega, vk2.2, fun z => ?_⟩ ?_ (fun z => by have := vk2.1; omega)
    · rw [e32''] at z
      exact ⟨vk2, by rw [ex z]; exact hw z, hsz⟩
    · refine PdK.step (o := oc v2 k2) hP gB hn hr (fun z => by rw [e32'']; exact z) (fun s hls => ⟨fun z => ?_, fun z => absurd (by rw [e32'']; exact hls.1) z⟩)
      have e := ex hls.1
      rw [e] at hsz
      refine ⟨(s.1, s.2 + c), by rw [e]; exact big_ok hsz, rfl, ?_⟩
      have := hls.2.2
      show v2.1 29 ≤ B + ((s.2 + c : Nat) : Int)
      omega
  · have hbig : 120 < (oc v2 k2).sz := by
      by_cases q : (oc v2 k2).sz ≤ 120
      · exact absurd (hs.mpr q) h
      · omega
    refine pc_blame gv2.1 (by decide) (fun w gw w32 => ?_)
    have gB2 : CG f8B f8W v w := gB.tr (gw.mono (fun k hk => by unfold f8B at hk; rw [Bool.or_eq_false_iff] at hk; exact hk.2) f80_any)
    have h44 := gw.1.1.1.1
    refine hq (-1) w gB2 (fun _ => w32) ⟨Int.le_refl _, by omega, fun z => absurd z w32⟩ ?_ (fun _ => w32)
    refine PdK.step (o := oc w (-1)) hP gB2 hn hr (fun _ => w32) (fun s hls => ⟨fun z => absurd z w32, fun _ => ⟨(s.1, s.2 + c), big_err (by rw [← ex hls.1]; exact hbig), rfl⟩⟩)
theorem pc_mk1 [DecidableEq Ob] {α : Type} {f a B : Int} {F : Ob} {n r : Nat → Bool} {Q : Int → iST → Prop} {u v : iST} {E : Sp.Env} {R : EStateM.Result Unit Sp.Wk α} {K : Ob → Sp.M α} (hP : PdK B n r u v R (Sp.bd (Sp.mk1 F (oc v a)) K)) (hn : ∀ k, n k = false → f8B k = false) (hr : ∀ k, r k = false → f8W k = false) (fit : Fit B R) (hK : ∀ a, Mono (K a)) (hf : VN v f ∧ oc v f = F) (fs : F.isSym = true) (fq : F ≠ Ob.quote) (har : Sp.arOf E F = 1) (na : NdD v E a)
    (hq : ∀ t w, CG f8B f8W v w → (v.1 32 ≠ 0 → w.1 32 ≠ 0) → NdD w E t → PdK B n r u w R (K (oc w t)) → (t = -1 → w.1 32 ≠ 0) → Q t w) : pv_10_call f a (-1) (-1) Q v := by
  have hT := hP.1.1
  obtain ⟨z0, z1⟩ := VN.zero hT
  unfold pv_10_call
  refine ⟨fun z => absurd rfl z, fun _ => ?_⟩
  unfold pv_10_call_23
  refine ⟨fun z => absurd rfl z, fun _ => ?_⟩
  exact pc_call48 (u1 := v) (A := oc v a) (Y := Ob.nil) (c := 2) hP hn hr fit hK (CG.rf hT) (by omega) hf ⟨na.2.1, fun z => ⟨(na.2.2 z).1.1, rfl⟩⟩ ⟨z0, fun _ => z1⟩ (fun z => Ob.wt_mk (l := [oc v a]) fq fs har (fun x hx => by rcases List.mem_cons.mp hx with q | q; (rw [q]; exact (na.2.2 z).2.1); cases q)) hq
theorem pc_mk2 [DecidableEq Ob] {α : Type} {f a b B : Int} {F : Ob} {n r : Nat → Bool} {Q : Int → iST → Prop} {u v : iST} {E : Sp.Env} {R : EStateM.Result Unit Sp.Wk α} {K : Ob → Sp.M α} (hP : PdK B n r u v R (Sp.bd (Sp.mk2 F (oc v a) (oc v b)) K)) (hn : ∀ k, n k = false → f8B k = false) (hr : ∀ k, r k = false → f8W k = false) (fit : Fit B R) (hK : ∀ a, Mono (K a)) (hf : VN v f ∧ oc v f = F) (fs : F.isSym = true) (fq : F ≠ Ob.quote) (har : Sp.arOf E F = 2) (na : NdD v E a) (nb : NdD v E b)
    (hq : ∀ t w, CG f8B f8W v w → (v.1 32 ≠ 0 → w.1 32 ≠ 0) → NdD w E t → PdK B n r u w R (K (oc w t)) → (t = -1 → w.1 32 ≠ 0) → Q t w) : pv_10_call f a b (-1) Q v := by
  have hT := hP.1.1
  have hl := hT.1.1
  obtain ⟨z0, z1⟩ := VN.zero hT
  have hwt : v.1 32 = 0 → Ob.wt (Sp.arOf E) (.pr F (.pr (oc v a) (.pr (oc v b) Ob.nil))) := fun z => Ob.wt_mk (l := [oc v a, oc v b]) fq fs har (fun x hx => by
    rcases List.mem_cons.mp hx with q | q
    · rw [q]; exact (na.2.2 z).2.1
    · rcases List.mem_cons.mp q with q | q
      · rw [q]; exact (nb.2.2 z).2.1
      · cases q)
  have hd : v.1 29 < 160000 ∨ v.1 32 ≠ 0 := by
    by_cases q : v.1 32 = 0
    · have := PdK.room hP fit hK q; exact Or.inl (by omega)
    · exact Or.inr q
  have hroom : v.1 32 = 0 → v.1 29 < 160000 := fun q => by have := PdK.room hP fit hK q; omega
  unfold pv_10_call
  refine ⟨fun z => absurd rfl z, fun _ => ?_⟩
  unfold pv_10_call_23
  refine ⟨fun hb => ?_, fun hb => ?_⟩
  · refine pc_pairG hT nb.2.1 z0.2 hd (fun k v1 g1 vk ek h1 => ?_)
    exact pc_call48 (u1 := v1) (A := oc v a) (Y := .pr (oc v b) Ob.nil) (c := 3) hP hn hr fit hK g1 (by omega) hf ⟨by have := g1.le; have := na.2.1; omega, fun z => ⟨(na.2.2 z).1.1, g1.oc hT (na.2.2 z).1.1 (na.2.2 z).1.2⟩⟩ ⟨vk, fun z => by rw [ek (hroom z) (nb.2.2 z).1.1 z0.1, z1]⟩ hwt hq
  · have hb := Decidable.not_not.mp hb
    have dead : v.1 32 ≠ 0 := fun z => by have := (nb.2.2 z).1.1; omega
    exact pc_call48 (u1 := v) (A := oc v a) (Y := .pr (oc v b) Ob.nil) (c := 3) hP hn hr fit hK (CG.rf hT) (by omega) hf ⟨na.2.1, fun z => absurd z dead⟩ ⟨z0, fun z => absurd z dead⟩ hwt hq
theorem pc_mk3 [DecidableEq Ob] {α : Type} {f a b d B : Int} {F : Ob} {n r : Nat → Bool} {Q : Int → iST → Prop} {u v : iST} {E : Sp.Env} {R : EStateM.Result Unit Sp.Wk α} {K : Ob → Sp.M α} (hP : PdK B n r u v R (Sp.bd (Sp.mk3 F (oc v a) (oc v b) (oc v d)) K)) (hn : ∀ k, n k = false → f8B k = false) (hr : ∀ k, r k = false → f8W k = false) (fit : Fit B R) (hK : ∀ a, Mono (K a)) (hf : VN v f ∧ oc v f = F) (fs : F.isSym = true) (fq : F ≠ Ob.quote) (har : Sp.arOf E F = 3) (na : NdD v E a) (nb : NdD v E b) (nd : NdD v E d)
    (hq : ∀ t w, CG f8B f8W v w → (v.1 32 ≠ 0 → w.1 32 ≠ 0) → NdD w E t → PdK B n r u w R (K (oc w t)) → (t = -1 → w.1 32 ≠ 0) → Q t w) : pv_10_call f a b d Q v := by
  have hT := hP.1.1
  have hl := hT.1.1
  obtain ⟨z0, z1⟩ := VN.zero hT
  have hwt : v.1 32 = 0 → Ob.wt (Sp.arOf E) (.pr F (.pr (oc v a) (.pr (oc v b) (.pr (oc v d) Ob.nil)))) := fun z => Ob.wt_mk (l := [oc v a, oc v b, oc v d]) fq fs har (fun x hx => by
    rcases List.mem_cons.mp hx with q | q
    · rw [q]; exact (na.2.2 z).2.1
    · rcases List.mem_cons.mp q with q | q
      · rw [q]; exact (nb.2.2 z).2.1
      · rcases List.mem_cons.mp q with q | q
        · rw [q]; exact (nd.2.2 z).2.1
        · cases q)
  have hroom : v.1 32 = 0 → v.1 29 + 4 ≤ 160000 := fun q => by have := PdK.room hP fit hK q; omega
  -- behind the third term
  have go23 : ∀ (y : Int) (v1 : iST), CG f8M f8R v v1 → v1.1 29 ≤ v.1 29 + 1 → VN v1 y → (v.1 32 = 0 → oc v1 y = .pr (oc v d) Ob.nil) → pv_10_call_23 Q f a b y v1 := by
    intro y v1 g1 h1 vy ey
    have e32 : v1.1 32 = v.1 32 := g1.2.2.1 32 (by decide)
    have hle := g1.le
    have na2 := na.2.1
    have nb2 := nb.2.1
    unfold pv_10_call_23
    refine ⟨fun hb => ?_, fun hb => ?_⟩
    · refine pc_pairG g1.1 (by omega) vy.2 (by
        by_cases q : v.1 32 = 0
        · have := hroom q; exact Or.inl (by omega)
        · exact Or.inr (by rw [e32]; exact q)) (fun k v2 g2 vk ek h2 => ?_)
      have g12 := g1.tr g2
      have hle2 := g2.le
      exact pc_call48 (u1 := v2) (A := oc v a) (Y := .pr (oc v b) (.pr (oc v d) Ob.nil)) (c := 4) hP hn hr fit hK g12 (by omega) hf ⟨by omega, fun z => ⟨(na.2.2 z).1.1, g12.oc hT (na.2.2 z).1.1 (na.2.2 z).1.2⟩⟩ ⟨vk, fun z => by rw [ek (by have := hroom z; omega) (nb.2.2 z).1.1 vy.1, ey z, g1.oc hT (nb.2.2 z).1.1 (nb.2.2 z).1.2]⟩ hwt hq
    · have hb := Decidable.not_not.mp hb
      have dead : v.1 32 ≠ 0 := fun z => by have := (nb.2.2 z).1.1; omega
      exact pc_call48 (u1 := v1) (A := oc v a) (Y := .pr (oc v b) (.pr (oc v d) Ob.nil)) (c := 4) hP hn hr fit hK g1 (by omega) hf ⟨by omega, fun z => absurd z dead⟩ ⟨vy, fun z => absurd z dead⟩ hwt hq
  unfold pv_10_call
  refine ⟨fun hd3 => ?_, fun hd3 => ?_⟩
  · refine pc_pairG hT nd.2.1 z0.2 (by
      by_cases q : v.1 32 = 0
      · have := hroom q; exact Or.inl (by omega)
      · exact Or.inr q) (fun k v1 g1 vk ek h1 => go23 k v1 g1 h1 vk (fun z => by rw [ek (by have := hroom z; omega) (nd.2.2 z).1.1 z0.1, z1]))
  · have hd3 := Decidable.not_not.mp hd3
    have dead : v.1 32 ≠ 0 := fun z => by have := (nd.2.2 z).1.1; omega
    exact go23 0 v (CG.rf hT) (by omega) z0 (fun z => absurd z dead)
