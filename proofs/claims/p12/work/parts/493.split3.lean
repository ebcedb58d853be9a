-- deps: 492
theorem p_split [DecidableEq Ob] {id i v : Int} {Q : iST → Prop} {u : iST} {E : Sp.Env} (hT : TI u) (hU : TU u) (hC : ClOk u E id) (i0 : 0 ≤ i) (i1 : i < u.2.1 115 id) (d0 : 0 ≤ id) (hid : id < u.1 117) (h71 : 0 ≤ u.1 71) (h61 : u.1 61 = 0) (nv : Nd u E v) (hs : Sp.splits (ob u v) = true) {s : Sp.Wk} {r : Nat} (hr : u.2.1 116 id = (r : Int))
    (hok : ∀ w s' x y, Sp.splitC ((lits u id).take i.toNat) ((lits u id).drop (i.toNat + 1)) (ob u v) r s = .ok (some (.inl ((x, r + 1), (y, r + 1)))) s' → s'.1 = s.1 → SpR u w E x y ((r : Int) + 1) → w.1 61 = 0 → Q w)
    (hbad : ∀ w s', Sp.splitC ((lits u id).take i.toNat) ((lits u id).drop (i.toNat + 1)) (ob u v) r s = .error () s' → s'.1 = s.1 → GZ f7V u w → w.1 61 ≠ 0 → Q w) : pw_split id i v Q u := by
  obtain ⟨R, hR⟩ : ∃ R, R = Sp.splitC ((lits u id).take i.toNat) ((lits u id).drop (i.toNat + 1)) (ob u v) r s := ⟨_, rfl⟩
  rw [← hR] at hok hbad
  have main : ∀ (f x4 : Int), Nd u E f → (ob u f).isCallOf Ob.ifS = true → Sp.ifIn (ob u v) = ob u f → (x4 = 0 ↔ (ob u v).isCallOf Ob.not = false) → pw_split_29 Q id i x4 f u := by
    intro f x4 nf hf ef hx4
    have hR1 : R = Sp.bd (if (ob u v).isCallOf Ob.not then Sp.mkNot (Ob.item (ob u f) 2) else Sp.ret (Ob.item (ob u f) 2)) (fun b => Sp.bd (if (ob u v).isCallOf Ob.not then Sp.mkNot (Ob.item (ob u f) 3) else Sp.ret (Ob.item (ob u f) 3)) (fun c => Sp.bd (Sp.mkNot (Ob.item (ob u f) 1)) (fun a => Sp.bd (Sp.bounded (((lits u id).take i.toNat ++ [a, b] ++ (lits u id).drop (i.toNat + 1)).foldl Sp.putL [])) (fun x => Sp.bd (Sp.bounded (((lits u id).take i.toNat ++ [Ob.item (ob u f) 1, c] ++ (lits u id).drop (i.toNat + 1)).foldl Sp.putL [])) (fun y => Sp.ret (some (.inl ((x, r + 1), (y, r + 1)))))))) ) s := by
      rw [hR, ← ef]
      rfl
    -- behind b
    have s66 : ∀ (a b : Int) (t : iST) (s1 : Sp.Wk), GM u t → Nd u E a → ob u a = Ob.item (ob u f) 1 → Nd t E b → s1.1 = s.1 → (t.1 61 = 0 → R = Sp.bd (if (ob u v).isCallOf Ob.not then Sp.mkNot (Ob.item (ob u f) 3) else Sp.ret (Ob.item (ob u f) 3)) (fun c => Sp.bd (Sp.mkNot (Ob.item (ob u f) 1)) (fun a => Sp.bd (Sp.bounded (((lits u id).take i.toNat ++ [a, ob t b] ++ (lits u id).drop (i.toNat + 1)).foldl Sp.putL [])) (fun x => Sp.bd (Sp.bounded (((lits u id).take i.toNat ++ [Ob.item (ob u f) 1, c] ++ (lits u id).drop (i.toNat + 1)).foldl Sp.putL [])) (fun y => Sp.ret (some (.inl ((x, r + 1), (y, r + 1)))))))) s1) → (t.1 61 ≠ 0 → R = .error () s1) → pw_split_66 Q id i x4 f a b t := by
      intro a b t s1 hG na ea nb es1 h1 h2
      obtain ⟨nft, eft⟩ := nf.mono hT hG.1
      have hTt := hG.1.1
      have hUt := hG.1.2.1
      unfold pw_split_66
      refine ⟨fun hz => ?_, fun hz => ?_⟩
      · have hn := hx4.mp hz
        refine p_it hTt nft (by rw [eft]; exact hf) ifS_q (arOf_ifS E) (by decide) (by decide) (by decide) (fun c nc ec => ?_)
        have ec : ob t c = Ob.item (ob u f) 3 := by rw [ec, eft]; rfl
        refine p_split94 (s := s1) hT hG hC i0 i1 d0 hid h71 na nb nc hr (fun z => ?_) h2 (fun w s' x y a b => hok w s' x y a (b.trans es1)) (fun w s' a b => hbad w s' a (b.trans es1))
        rw [h1 z, if_neg (by rw [hn]; decide), ea, ec]
        rfl
      · have hn : (ob u v).isCallOf Ob.not = true := by
          cases e : (ob u v).isCallOf Ob.not with
          | true => rfl
          | false => exact absurd (hx4.mpr e) hz
        refine p_it hTt nft (by rw [eft]; exact hf) ifS_q (arOf_ifS E) (by decide) (by decide) (by decide) (fun c nc ec => ?_)
        have ec : ob t c = Ob.item (ob u f) 3 := by rw [ec, eft]; rfl
        refine p_notOf hTt hUt (by rw [hG.2.1]; exact h71) nc.1 nc.2.1 nc.2.2.1 (fun h => by obtain ⟨x, e, _⟩ := Ob.wt_one nc.2.2.2 h not_q (arOf_not E); exact ⟨x, e⟩) (fun k w hG2 k0 k1 ek tk fk => ?_)
        have nk : Nd w E k := ⟨k0, k1, tk, by rw [ek]; exact wt_neg nc.2.2.2⟩
        obtain ⟨nbw, ebw⟩ := nb.mono hTt hG2.1
        have hst : ∃ s2 : Sp.Wk, s2.1 = s.1 ∧ (w.1 61 = 0 → R = Sp.bd (Sp.mkNot (Ob.item (ob u f) 1)) (fun a => Sp.bd (Sp.bounded (((lits u id).take i.toNat ++ [a, ob t b] ++ (lits u id).drop (i.toNat + 1)).foldl Sp.putL [])) (fun x => Sp.bd (Sp.bounded (((lits u id).take i.toNat ++ [Ob.item (ob u f) 1, ob w k] ++ (lits u id).drop (i.toNat + 1)).foldl Sp.putL [])) (fun y => Sp.ret (some (.inl ((x, r + 1), (y, r + 1))))))) s2) ∧ (w.1 61 ≠ 0 → R = .error () s2) := by
          by_cases z : t.1 61 = 0
          · have hm := MK_not (s := s1) z ek fk
            rw [ec] at hm
            have h1 := h1 z
            rw [if_pos hn] at h1
            rcases hm with ⟨s2, e2, es2, h0⟩ | ⟨s2, e2, es2, h0⟩
            · exact ⟨s2, es2.trans es1, fun _ => by rw [h1, bind_ok e2], fun y => absurd h0 y⟩
            · exact ⟨s2, es2.trans es1, fun y => absurd y h0, fun _ => by rw [h1, bind_err e2]⟩
          · exact ⟨s1, es1, fun y => absurd y (by rw [fk]; exact nb_ne z), fun _ => h2 z⟩
        obtain ⟨s2, es2, g1, g2⟩ := hst
        exact p_split94 (s := s2) hT (hG.tr hG2) hC i0 i1 d0 hid h71 na nbw nk hr (fun z => by rw [g1 z, ea, ebw]) g2 (fun w s' x y a b => hok w s' x y a (b.trans es2)) (fun w s' a b => hbad w s' a (b.trans es2))
    unfold pw_split_29
    refine p_it hT nf hf ifS_q (arOf_ifS E) (by decide) (by decide) (by decide) (fun a na ea => ?_)
    have ea : ob u a = Ob.item (ob u f) 1 := ea
    refine ⟨fun hz => ?_, fun hz => ?_⟩
    · have hn := hx4.mp hz
      refine p_it hT nf hf ifS_q (arOf_ifS E) (by decide) (by decide) (by decide) (fun b nb eb => ?_)
      have eb : ob u b = Ob.item (ob u f) 2 := eb
      refine s66 a b u s (GM.rf hT hU) na ea nb rfl (fun _ => ?_) (fun z => absurd h61 z)
      rw [hR1, if_neg (by rw [hn]; decide), eb]
      rfl
    · have hn : (ob u v).isCallOf Ob.not = true := by
        cases e : (ob u v).isCallOf Ob.not with
        | true => rfl
        | false => exact absurd (hx4.mpr e) hz
      refine p_it hT nf hf ifS_q (arOf_ifS E) (by decide) (by decide) (by decide) (fun b nb eb => ?_)
      have eb : ob u b = Ob.item (ob u f) 2 := eb
      refine p_notOf hT hU h71 nb.1 nb.2.1 nb.2.2.1 (fun h => by obtain ⟨x, e, _⟩ := Ob.wt_one nb.2.2.2 h not_q (arOf_not E); exact ⟨x, e⟩) (fun k w hG2 k0 k1 ek tk fk => ?_)
      have nk : Nd w E k := ⟨k0, k1, tk, by rw [ek]; exact wt_neg nb.2.2.2⟩
      have hm := MK_not (s := s) h61 ek fk
      rw [eb] at hm
      rw [if_pos hn] at hR1
      rcases hm with ⟨s1, e1, es1, h0⟩ | ⟨s1, e1, es1, h0⟩
      · exact s66 a k w s1 hG2 na ea nk es1 (fun _ => by rw [hR1, bind_ok e1]) (fun z => absurd h0 z)
      · exact s66 a k w s1 hG2 na ea nk es1 (fun z => absurd z h0) (fun _ => by rw [hR1, bind_err e1])
  unfold pw_split
  refine p_callK hT hU nv.1 nv.2.1 15 (by decide) (by decide) rfl (fun r1 h1 => ⟨fun hz => ?_, fun hz => ?_⟩)
  · have hn := h1.f hz
    have hif : (ob u v).isCallOf Ob.ifS = true := by
      unfold Sp.splits at hs
      rw [hn, Bool.false_and, Bool.or_false] at hs
      exact hs
    exact main v r1 nv hif (by unfold Sp.ifIn; rw [if_neg (by rw [hn]; decide)]) ⟨fun _ => hn, fun _ => hz⟩
  · have hn := h1.t hz
    obtain ⟨x, ex, wx⟩ := Ob.wt_one nv.2.2.2 hn not_q (arOf_not E)
    obtain ⟨_, _, q0, q1, _, _, ep⟩ := ob_lft hT nv.1 nv.2.1 (by rw [ex]; rfl)
    have n21 := nv.2.1
    have er : ob u (u.2.1 1 v) = .pr x Ob.nil := by rw [ex] at ep; exact (Ob.pr.inj ep).2.symm
    obtain ⟨m0, m1, _, _, _, _, ep2⟩ := ob_lft hT q0 (by omega) (by rw [er]; rfl)
    have em : ob u (u.2.1 0 (u.2.1 1 v)) = x := by rw [er] at ep2; exact (Ob.pr.inj ep2).1.symm
    have ei : Ob.item (ob u v) 1 = x := by rw [ex]; rfl
    have nif : (ob u v).isCallOf Ob.ifS = false := by
      rw [ex, Ob.isCallOf_pr]
      exact decide_eq_false (Ob.sym_ne (by decide))
    have hif : x.isCallOf Ob.ifS = true := by
      unfold Sp.splits at hs
      rw [nif, hn, ei] at hs
      exact hs
    intro _ _ y ey _ _ _ z ez _
    rw [ey] at ez
    rw [ez]
    refine main _ r1 ⟨m0, by omega, ?_, by rw [em]; exact wx⟩ (by rw [em]; exact hif) (by unfold Sp.ifIn; rw [if_pos hn, ei, em]) ⟨fun z => absurd z hz, fun z => by rw [hn] at z; cases z⟩
    rw [em]
    have := nv.2.2.1
    rw [ex] at this
    exact (Tm_call this not_q).2.1.1
