-- deps: 541
/-! the reference: what is still to be made of a conclusion -/
def f7Cc (k : Nat) : Bool := f7O k || decide (k = 60) || decide (77 ≤ k ∧ k ≤ 91)
theorem f7O_Cc [DecidableEq Ob] : ∀ k, f7Cc k = false → f7O k = false := by
  intro k h
  unfold f7Cc at h
  rw [Bool.or_eq_false_iff, Bool.or_eq_false_iff] at h
  exact h.1.1
theorem f7I_Cc [DecidableEq Ob] : ∀ k, f7Cc k = false → f7I k = false := fun k h => f7I_O k (f7O_Cc k h)
theorem f7M_Cc [DecidableEq Ob] : ∀ k, f7Cc k = false → f7M k = false := fun k h => f7M_O k (f7O_Cc k h)
theorem f7D_Cc [DecidableEq Ob] : ∀ k, f7Cc k = false → f7D k = false := fun k h => f7D_I k (f7I_Cc k h)
theorem f7E_Cc [DecidableEq Ob] : ∀ k, f7Cc k = false → f7E k = false := by
  intro k h
  have a := f7M_Cc k h
  unfold f7Cc at h
  unfold f7M fI at a
  unfold f7E
  simp only [Bool.or_eq_false_iff, decide_eq_false_iff_not] at a h ⊢
  omega
def PdC [DecidableEq Ob] (u v : iST) (E : Sp.Env) (R : EStateM.Result Unit Sp.Wk (List Ob)) (m : Sp.M (List Ob)) : Prop := GZ f7Cc u v ∧ v.1 71 = u.1 71 ∧ DfOk v E ∧ ((v.1 61 = 0 ∧ ∃ s, StL v s ∧ R = m s) ∨ (v.1 61 ≠ 0 ∧ ∃ s, StL v s ∧ R = .error () s))
theorem PdC.mk [DecidableEq Ob] {u v w : iST} {E : Sp.Env} {R : EStateM.Result Unit Sp.Wk (List Ob)} {m : Sp.M Ob} {k : Ob → Sp.M (List Ob)} {t : Int} (h : PdC u v E R (Sp.bd m k)) (g : GM v w) (hm : ∀ s, v.1 61 = 0 → MK m s w t) (hd : v.1 61 ≠ 0 → w.1 61 ≠ 0) : PdC u w E R (k (ob w t)) ∧ dfl w = dfl v := by
  obtain ⟨g0, h71, hD, hor⟩ := h
  obtain ⟨d2, l2⟩ := hD.mono g0.1 g.1 (by decide) (by decide)
  refine ⟨⟨g0.tr (g.1.mono f7M_Cc), g.2.1.trans h71, d2, ?_⟩, l2⟩
  rcases hor with ⟨a, s, hs, hR⟩ | ⟨a, s, hs, hR⟩
  · rcases (hm s a).cases with ⟨b, s2, h1, h2⟩ | ⟨b, s2, h1, h2⟩
    · exact Or.inl ⟨b, s2, hs.gz g.1 (by decide) (by decide) h2, by rw [hR]; exact bind_ok h1⟩
    · exact Or.inr ⟨b, s2, hs.gz g.1 (by decide) (by decide) h2, by rw [hR]; exact bind_err h1⟩
  · exact Or.inr ⟨hd a, s, hs.gz g.1 (by decide) (by decide) rfl, hR⟩
theorem PdC.gm [DecidableEq Ob] {u v w : iST} {E : Sp.Env} {R : EStateM.Result Unit Sp.Wk (List Ob)} {m : Sp.M (List Ob)} (h : PdC u v E R m) (g : GM v w) (h61 : w.1 61 = v.1 61) : PdC u w E R m ∧ dfl w = dfl v := by
  obtain ⟨g0, h71, hD, hor⟩ := h
  obtain ⟨d2, l2⟩ := hD.mono g0.1 g.1 (by decide) (by decide)
  refine ⟨⟨g0.tr (g.1.mono f7M_Cc), g.2.1.trans h71, d2, ?_⟩, l2⟩
  rw [h61]
  exact hor.imp (fun ⟨a, s, hs, hR⟩ => ⟨a, s, hs.gz g.1 (by decide) (by decide) rfl, hR⟩) (fun ⟨a, s, hs, hR⟩ => ⟨a, s, hs.gz g.1 (by decide) (by decide) rfl, hR⟩)
theorem p_mk2P [DecidableEq Ob] {f a b : Int} {F : Ob} {Q : Int → iST → Prop} {u v : iST} {E : Sp.Env} {R : EStateM.Result Unit Sp.Wk (List Ob)} {k : Ob → Sp.M (List Ob)} (hP : PdC u v E R (Sp.bd (Sp.mk2 F (ob v a) (ob v b)) k)) (h71 : 0 ≤ u.1 71) (hk : 0 ≤ f ∧ f < v.1 8 ∧ ob v f = F) (fs : F.isSym = true) (fq : F ≠ Ob.quote) (ha : Sp.arOf E F = 2) (na : Nd v E a) (nb : Nd v E b)
    (hq : ∀ t w, GM v w → Nd w E t → dfl w = dfl v → PdC u w E R (k (ob w t)) → Q t w) : pw_made2 f a b Q v := by
  refine p_made2 hP.1.1 hP.1.2.1 (by rw [hP.2.1]; exact h71) hk.1 hk.2.1 (by rw [hk.2.2]; exact fs) (by rw [hk.2.2]; exact fq) na.1 na.2.1 na.2.2.1 nb.1 nb.2.1 nb.2.2.1 (fun t w gw t0 t1 et tt ft => ?_)
  rw [hk.2.2] at et
  obtain ⟨p, l⟩ := hP.mk gw (t := t) (fun s a => MK_big a et ft) (fun a => by rw [ft]; exact bw_ne a)
  exact hq t w gw (Nd_mk2 t0 t1 et tt fq fs ha na.2.2.2 nb.2.2.2) l p
theorem p_mk1P [DecidableEq Ob] {f a : Int} {F : Ob} {Q : Int → iST → Prop} {u v : iST} {E : Sp.Env} {R : EStateM.Result Unit Sp.Wk (List Ob)} {k : Ob → Sp.M (List Ob)} (hP : PdC u v E R (Sp.bd (Sp.mk1 F (ob v a)) k)) (h71 : 0 ≤ u.1 71) (hk : 0 ≤ f ∧ f < v.1 8 ∧ ob v f = F) (fs : F.isSym = true) (fq : F ≠ Ob.quote) (ha : Sp.arOf E F = 1) (na : Nd v E a)
    (hq : ∀ t w, GM v w → Nd w E t → dfl w = dfl v → PdC u w E R (k (ob w t)) → Q t w) : pw_made f a (-1) (-1) Q v := by
  refine p_made1 hP.1.1 hP.1.2.1 (by rw [hP.2.1]; exact h71) hk.1 hk.2.1 (by rw [hk.2.2]; exact fs) (by rw [hk.2.2]; exact fq) na.1 na.2.1 na.2.2.1 (fun t w gw t0 t1 et tt ft => ?_)
  rw [hk.2.2] at et
  obtain ⟨p, l⟩ := hP.mk gw (t := t) (fun s a => MK_big a et ft) (fun a => by rw [ft]; exact bw_ne a)
  exact hq t w gw (Nd_mk1 t0 t1 et tt fq fs ha na.2.2.2) l p
theorem p_mk3P [DecidableEq Ob] {f a b c : Int} {F : Ob} {Q : Int → iST → Prop} {u v : iST} {E : Sp.Env} {R : EStateM.Result Unit Sp.Wk (List Ob)} {k : Ob → Sp.M (List Ob)} (hP : PdC u v E R (Sp.bd (Sp.mk3 F (ob v a) (ob v b) (ob v c)) k)) (h71 : 0 ≤ u.1 71) (hk : 0 ≤ f ∧ f < v.1 8 ∧ ob v f = F) (fs : F.isSym = true) (fq : F ≠ Ob.quote) (ha : Sp.arOf E F = 3) (na : Nd v E a) (nb : Nd v E b) (nc : Nd v E c)
    (hq : ∀ t w, GM v w → Nd w E t → dfl w = dfl v → PdC u w E R (k (ob w t)) → Q t w) : pw_made f a b c Q v := by
  refine p_made3 hP.1.1 hP.1.2.1 (by rw [hP.2.1]; exact h71) hk.1 hk.2.1 (by rw [hk.2.2]; exact fs) (by rw [hk.2.2]; exact fq) na.1 na.2.1 na.2.2.1 nb.1 nb.2.1 nb.2.2.1 nc.1 nc.2.1 nc.2.2.1 (fun t w gw t0 t1 et tt ft => ?_)
  rw [hk.2.2] at et
  obtain ⟨p, l⟩ := hP.mk gw (t := t) (fun s a => MK_big a et ft) (fun a => by rw [ft]; exact bw_ne a)
  exact hq t w gw (Nd_mk3 t0 t1 et tt fq fs ha na.2.2.2 nb.2.2.2 nc.2.2.2) l p
theorem p_notP [DecidableEq Ob] {a : Int} {Q : Int → iST → Prop} {u v : iST} {E : Sp.Env} {R : EStateM.Result Unit Sp.Wk (List Ob)} {k : Ob → Sp.M (List Ob)} (hP : PdC u v E R (Sp.bd (Sp.mkNot (ob v a)) k)) (h71 : 0 ≤ u.1 71) (na : Nd v E a)
    (hq : ∀ t w, GM v w → Nd w E t → dfl w = dfl v → PdC u w E R (k (ob w t)) → Q t w) : pw_notOf a Q v := by
  refine p_notG hP.1.1 hP.1.2.1 (by rw [hP.2.1]; exact h71) na (0, 0) (fun t w gw nt et mk dead ft => ?_)
  obtain ⟨p, l⟩ := hP.mk gw (t := t) (fun s a => MK_not a et ft) dead
  exact hq t w gw nt l p
theorem p_putP [DecidableEq Ob] {a : Int} {Q : iST → Prop} {u v : iST} {E : Sp.Env} {R : EStateM.Result Unit Sp.Wk (List Ob)} {m : Sp.M (List Ob)} (hP : PdC u v E R m) (na : Nd v E a) (hq : ∀ w, GZ f7D v w → dfl w = Sp.putL (dfl v) (ob v a) → PdC u w E R m → Q w) : pw_put a Q v := by
  obtain ⟨g0, h71, hD, hor⟩ := hP
  refine p_put g0.1 g0.2.1 hD na (fun w gw dw lw => hq w gw lw ⟨g0.tr (gw.mono f7D_Cc), (gw.2.2.2.2 71 (by decide)).1.trans h71, dw, ?_⟩)
  rw [(gw.2.2.2.2 61 (by decide)).1]
  exact hor.imp (fun ⟨a, s, hs, hR⟩ => ⟨a, s, hs.gz gw (by decide) (by decide) rfl, hR⟩) (fun ⟨a, s, hs, hR⟩ => ⟨a, s, hs.gz gw (by decide) (by decide) rfl, hR⟩)
theorem p_pourP [DecidableEq Ob] {c b : Int} {Q : iST → Prop} {u v : iST} {E : Sp.Env} {R : EStateM.Result Unit Sp.Wk (List Ob)} {m : Sp.M (List Ob)} {keep : Ob → Bool} (hP : PdC u v E R m) (hC : ClzOk v E c) (hk : ∀ i, 0 ≤ i → i < v.2.1 146 c → (v.2.1 145 (30 * c + i) = b ↔ keep (ob v (v.2.1 145 (30 * c + i))) = false)) (hq : ∀ w, GZ f7D v w → dfl w = ((clz v c).filter keep).foldl Sp.putL (dfl v) → PdC u w E R m → Q w) : pw_pour c b Q v := by
  obtain ⟨g0, h71, hD, hor⟩ := hP
  refine p_pour (keep := keep) g0.1 g0.2.1 hC hD hk (fun w gw dw lw => hq w gw lw ⟨g0.tr (gw.mono f7D_Cc), (gw.2.2.2.2 71 (by decide)).1.trans h71, dw, ?_⟩)
  rw [(gw.2.2.2.2 61 (by decide)).1]
  exact hor.imp (fun ⟨a, s, hs, hR⟩ => ⟨a, s, hs.gz gw (by decide) (by decide) rfl, hR⟩) (fun ⟨a, s, hs, hR⟩ => ⟨a, s, hs.gz gw (by decide) (by decide) rfl, hR⟩)
/-- what comes of a conclusion: 0 is none -/
def CcO [DecidableEq Ob] (u v : iST) (E : Sp.Env) (R : EStateM.Result Unit Sp.Wk (List Ob)) (r : Int) : Prop := (r ≠ 0 ∧ PdC u v E R (Sp.ret (dfl v))) ∨ (r = 0 ∧ GZ f7Cc u v ∧ v.1 71 = u.1 71 ∧ ∃ s, StL v s ∧ R = .error () s)
theorem PdC.fin [DecidableEq Ob] {u v : iST} {E : Sp.Env} {R : EStateM.Result Unit Sp.Wk (List Ob)} {l : List Ob} (h : PdC u v E R (Sp.ret l)) (e : dfl v = l) : CcO u v E R 1 := Or.inl ⟨by decide, by rw [e]; exact h⟩
theorem PdC.pay [DecidableEq Ob] {u v : iST} {E : Sp.Env} {R : EStateM.Result Unit Sp.Wk (List Ob)} {n : Nat} {k : Unit → Sp.M (List Ob)} (h : PdC u v E R (Sp.bd (Sp.pay n) k)) : PdC u v E R (k ()) := ⟨h.1, h.2.1, h.2.2.1, h.2.2.2.imp (fun ⟨a, s, hs, hR⟩ => ⟨a, (s.1, s.2 + n), hs, hR⟩) id⟩
theorem PdC.fail [DecidableEq Ob] {u v : iST} {E : Sp.Env} {R : EStateM.Result Unit Sp.Wk (List Ob)} (h : PdC u v E R Sp.fail) : CcO u v E R 0 := Or.inr ⟨rfl, h.1, h.2.1, h.2.2.2.elim (fun ⟨_, s, hs, hR⟩ => ⟨s, hs, hR⟩) (fun ⟨_, s, hs, hR⟩ => ⟨s, hs, hR⟩)⟩
theorem PdC.ly [DecidableEq Ob] {u v : iST} {E : Sp.Env} {R : EStateM.Result Unit Sp.Wk (List Ob)} {K : List Ob → Sp.M (List Ob)} (h : PdC u v E R (K (dfl v))) : LyD v v E R K := ⟨GZ.rf h.1.1 h.1.2.1, rfl, h.2.2.1, h.2.2.2⟩
theorem PdC.of [DecidableEq Ob] {u v w : iST} {E : Sp.Env} {R : EStateM.Result Unit Sp.Wk (List Ob)} {m : Sp.M (List Ob)} {K : List Ob → Sp.M (List Ob)} (h : PdC u v E R m) (g : LyD v w E R K) : PdC u w E R (K (dfl w)) := ⟨h.1.tr (g.1.mono f7I_Cc), g.2.1.trans h.2.1, g.2.2.1, g.2.2.2⟩
