/-! the rule of a theorem -/
def fH (k : Nat) : Bool := decide (k = 48) || decide (k = 49) || decide (k = 112)
theorem fH_t : ∀ k, k ≤ 11 → fH k = false := fun k hk => by simp [fH]; omega
/-- hypotheses of rule k -/
def HP (u v : iST) (k : Int) : Prop := Fx fH u v ∧ v.2.2 = u.2.2 ∧ (∀ j, j ≠ k → v.2.1 48 j = u.2.1 48 j) ∧ (∀ i, (i < 120 * k ∨ 120 * k + 120 ≤ i) → v.2.1 49 i = u.2.1 49 i) ∧ 0 ≤ v.2.1 48 k ∧ ∀ i, 0 ≤ i → i < v.2.1 48 k → TJ u (v.2.1 49 (120 * k + i))
theorem g_hypotheses {u v : iST} {k h : Int} {Q : iST → Prop} (hT : TI u) (hv : HP u v k) (k0 : 0 ≤ k) (k1 : k < 60) (hh : TJ u h) (hm : v.2.1 48 k + sz u h ≤ 120) (hq : ∀ w, HP u w k → w.2.1 48 k ≤ v.2.1 48 k + sz u h → Q w) : w_hypotheses k h Q v := by
  have hs := hh.1.szr hT
  have h8 := hT.2.1
  unfold w_hypotheses
  refine bd_i (Int.le_refl _) (by decide) (sw_i ?_)
  have start : HP u (iA v 112 0 h) k := ⟨hv.1.tr (Fx_A (k := 112) rfl), hv.2.1, fun j hj => hv.2.2.1 j hj, fun i hi => hv.2.2.2.1 i hi, hv.2.2.2.2⟩
  unfold w_hypotheses_9
  refine lr2 (B := fun R x1 x3 u => w_hypotheses_9b R Q x1 x3 u) (fun M x1 x3 w => k = x1 ∧ ∃ n : Nat, x3 = n ∧ HP u w k ∧ (∀ j : Nat, j < n → TJ u (w.2.1 112 j)) ∧ sumT u (w.2.1 112) n = M ∧ w.2.1 48 k + M ≤ v.2.1 48 k + sz u h) ?_ (n := (sz u h).toNat) ⟨rfl, 1, rfl, start, fun j hj => ?_, ?_, ?_⟩
  · intro M x1 x3 w hI R ih
    obtain ⟨e1, n, rfl, p1, p2, p3, p4⟩ := hI
    subst e1
    have len := sumT_len hT p2
    rw [p3] at len
    have p48 := p1.2.2.2.2.1
    have wt : ∀ k, k ≤ 11 → w.1 k = u.1 k ∧ w.2.1 k = u.2.1 k := fun k hk => p1.1 k (fH_t k hk)
    have wT : TI w := TI_eq hT wt p1.2.1
    unfold w_hypotheses_9b
    cases n with
    | zero => exact br_y (Int.le_refl _) (hq w p1 (by omega))
    | succ n =>
      have e1 : ((n + 1 : Nat) : Int) + (-1) = n := by omega
      refine br_n (by omega) (ov_i (by omega) (by omega) ?_)
      rw [e1]
      refine bd_i (by omega) (by omega) (rd_i fun _ => ?_)
      have ht := p2 n (by omega)
      have ts := ht.1.szr hT
      have tr := ht.1.r
      have hsum : sumT u (w.2.1 112) n + sz u (w.2.1 112 n) = M := p3
      have lenn := sumT_len hT (n := n) (fun j hj => p2 j (by omega))
      generalize hx : w.2.1 112 (n : Int) = x at *
      have k78 : w_hypotheses_78 R Q k n x w := by
        unfold w_hypotheses_78
        refine ov_i (by omega) (by omega) (bd_i k0 k1 (rd_i fun _ => ov_i (by omega) (by omega) (bd_i (by omega) (by omega) (sw_i (bd_i k0 k1 (rd_i fun _ => ?_))))))
        show ov (w.2.1 48 k + 1) (bd k 60 (sw (iA (iA w 49 (120 * k + w.2.1 48 k) x) 48 k (w.2.1 48 k + 1)) fun u => R k n u))
        refine ov_i (by omega) (by omega) (bd_i k0 k1 (sw_i ?_))
        generalize hz : iA (iA w 49 (120 * k + w.2.1 48 k) x) 48 k (w.2.1 48 k + 1) = z
        have z48 : ∀ j, z.2.1 48 j = if j = k then w.2.1 48 k + 1 else w.2.1 48 j := fun j => by rw [← hz]; rfl
        have z49 : ∀ j, z.2.1 49 j = if j = 120 * k + w.2.1 48 k then x else w.2.1 49 j := fun j => by rw [← hz]; rfl
        have zg : ∀ g, g ≠ 48 → g ≠ 49 → z.2.1 g = w.2.1 g := fun g g1 g2 => by rw [← hz]; exact (iA_other g1).trans (iA_other g2)
        have zF : Fx fH w z := by rw [← hz]; exact (Fx_A (k := 49) rfl).tr (Fx_A (k := 48) rfl)
        have zL : z.2.2 = w.2.2 := by rw [← hz]; rfl
        clear hz
        refine ih (M - (sz u x).toNat) _ _ _ (by omega) ⟨rfl, n, rfl, ⟨p1.1.tr zF, zL.trans p1.2.1, fun j hj => by rw [z48, if_neg hj]; exact p1.2.2.1 j hj, fun i hi => by rw [z49, if_neg (by omega)]; exact p1.2.2.2.1 i hi, by rw [z48, if_pos rfl]; omega, fun i i0 i1 => ?_⟩, fun j hj => by rw [zg 112 (by decide) (by decide)]; exact p2 j (by omega), by rw [zg 112 (by decide) (by decide)]; omega, by rw [z48, if_pos rfl]; omega⟩
        rw [z48, if_pos rfl] at i1
        rw [z49]
        split
        · exact ht
        · exact p1.2.2.2.2.2 i i0 (by omega)
      refine s_isCallOf tr.1 (by omega) fun b _ hb => br_i (fun _ => k78) fun hz => ?_
      rw [(wt 0 (by decide)).2] at hb
      have h3 := (hb.mp hz).2
      refine s_term wT tr.1 (by rw [(wt 8 (by decide)).1]; exact tr.2) (by decide) (by decide) (br_i (fun _ => k78) fun hnil => ?_)
      have hsz := IF_sz hT ht h3
      have hc : TJ u (el u x 1) := TJ.el (i := 1) hT ht (by omega) (by omega) (Or.inl rfl)
      have ha : TJ u (el u x 2) := TJ.el (i := 2) hT ht (by omega) (by omega) (Or.inr (Or.inl ⟨rfl, by omega⟩))
      have hd : TJ u (el u x 3) := TJ.el (i := 3) hT ht (by omega) (by omega) (Or.inr (Or.inr ⟨rfl, h3⟩))
      have cs := hc.1.szr hT
      have as' := ha.1.szr hT
      have ds := hd.1.szr hT
      refine s_term wT tr.1 (by rw [(wt 8 (by decide)).1]; exact tr.2) (by decide) (by decide) (bd_i (by omega) (by omega) (sw_i (ov_i (by omega) (by omega) ?_)))
      rw [el_t wt]
      have t2 : ∀ k', k' ≤ 11 → (iA w 112 (n : Int) (el u x (2 : Int).toNat)).1 k' = u.1 k' ∧ (iA w 112 (n : Int) (el u x (2 : Int).toNat)).2.1 k' = u.2.1 k' := fun k' hk => ⟨(wt k' hk).1, (iA_other (by omega)).trans (wt k' hk).2⟩
      refine s_term (TI_eq hT t2 p1.2.1) tr.1 (by rw [(t2 8 (by decide)).1]; exact tr.2) (by decide) (by decide) (bd_i (by omega) (by omega) (sw_i (ov_i (by omega) (by omega) ?_)))
      rw [el_t t2]
      show R k ((n : Int) + 2) (iA (iA w 112 (n : Int) (el u x 2)) 112 ((n : Int) + 1) (el u x 1))
      generalize hz2 : iA (iA w 112 (n : Int) (el u x 2)) 112 ((n : Int) + 1) (el u x 1) = z
      have z112 : ∀ j, z.2.1 112 j = if j = (n : Int) + 1 then el u x 1 else if j = (n : Int) then el u x 2 else w.2.1 112 j := fun j => by rw [← hz2, iA_same, iA_same]
      have zg : ∀ g, g ≠ 112 → z.2.1 g = w.2.1 g := fun g g1 => by rw [← hz2]; exact (iA_other g1).trans (iA_other g1)
      have zF : Fx fH w z := by rw [← hz2]; exact (Fx_A (k := 112) rfl).tr (Fx_A (k := 112) rfl)
      have zL : z.2.2 = w.2.2 := by rw [← hz2]; rfl
      clear hz2
      have e3 : sz u (el u x 3) = 1 ∨ 1 ≤ sz u (el u x 3) := by omega
      refine ih (sz u (el u x 1) + sz u (el u x 2) + sumT u (w.2.1 112) n).toNat _ _ _ (by omega) ⟨rfl, n + 2, by omega, ⟨p1.1.tr zF, zL.trans p1.2.1, fun j hj => by rw [zg 48 (by decide)]; exact p1.2.2.1 j hj, fun i hi => by rw [zg 49 (by decide)]; exact p1.2.2.2.1 i hi, by rw [zg 48 (by decide)]; exact p48, fun i i0 i1 => by rw [zg 48 (by decide)] at i1; rw [zg 49 (by decide)]; exact p1.2.2.2.2.2 i i0 i1⟩, fun j hj => ?_, ?_, ?_⟩
      · rw [z112]
        split
        · exact hc
        · split
          · exact ha
          · exact p2 j (by omega)
      · show sumT u (z.2.1 112) n + sz u (z.2.1 112 n) + sz u (z.2.1 112 ((n + 1 : Nat) : Int)) = _
        rw [sumT_ext (ExtT.rf u) (r := w.2.1 112) (fun j hj => ⟨(p2 j (by omega)).1, by rw [z112, if_neg (by omega), if_neg (by omega)]⟩), z112, z112, if_neg (by omega), if_pos rfl, if_pos (by omega)]
        omega
      · rw [zg 48 (by decide)]
        omega
  · have : j = 0 := by omega
    subst this
    exact hh
  · show (0 : Int) + sz u h = ((sz u h).toNat : Int)
    omega
  · show v.2.1 48 k + ((sz u h).toNat : Int) ≤ _
    omega
/-- covers: only walks -/
theorem g_covers {u v : iST} {l o : Int} {Q : Int → iST → Prop} (hT : TI v) (hl : IsW v l) (hls : sz v l ≤ 125) (ho : IsW v o) (hos : sz v o ≤ 125) (hq : ∀ b w, bz b → Fx fV v w → w.2.2 = v.2.2 → Q b w) : w_covers l o Q v := by
  have h8 := hT.2.1
  unfold w_covers
  refine g_variablesOf hT ho hos fun w a1 a2 a3 a4 a5 _ => rd_i fun _ => ?_
  unfold w_covers_13
  refine lf3 (B := fun R x1 x3 x4 u => w_covers_13b R Q x1 x3 x4 u) (fun y1 y3 y4 z => l = y1 ∧ w.1 78 = y3 ∧ 0 ≤ y4 ∧ Fx fV v z ∧ z.2.2 = v.2.2) (fun _ _ y4 _ => (w.1 78 - y4).toNat) ?_ ⟨rfl, rfl, Int.le_refl _, a1, a2⟩
  intro y1 y3 y4 z hI R ih
  obtain ⟨e1, e2, p1, p2, p3⟩ := hI
  subst e1
  subst e2
  have zt' : ∀ k, k ≤ 11 → z.1 k = v.1 k ∧ z.2.1 k = v.2.1 k := fun k hk => p2 k (fV_75 k hk)
  unfold w_covers_13b
  refine br_i (fun _ => zt_1 (hq 1 z (Or.inr rfl) p2 p3)) fun hlt => bd_i p1 (by omega) (rd_i fun _ => g_hasVariable (TI_eq hT zt' p3) (hl.eq zt') (by rw [sz_t zt']; omega) fun r y _ hF hL => br_i (fun _ => ov_i (by omega) (by omega) (ih _ _ _ _ ⟨rfl, rfl, by omega, p2.tr (hF.mono (fun k hk => by simp [fV] at hk; simp [fK]; omega)), hL.trans p3⟩ (by omega))) fun _ => zt_0 (hq 0 y (Or.inl rfl) (p2.tr (hF.mono (fun k hk => by simp [fV] at hk; simp [fK]; omega))) (hL.trans p3)))
