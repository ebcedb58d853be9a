/-! the class: what rewriting needs, and keeps -/
abbrev rwS_r : List Nat := [4, 5, 6, 7, 8, 9, 23, 24, 26, 28, 29, 31, 32, 39]
abbrev rwR_r : List Nat := [16, 17, 18, 19, 20, 21, 22, 27, 28, 29, 30, 35, 36, 37, 38, 39, 40, 41, 42, 43, 51, 52, 54, 55, 56]
abbrev ioS_r : List Nat := [4, 5, 6, 7, 8, 9, 29, 31, 32, 39]
abbrev ioR_r : List Nat := [16, 17, 18, 19, 20, 21, 22, 27, 28, 29, 30, 35, 36, 37, 38, 39, 40, 41, 42, 43, 54, 55, 56]
def fr_r (u : iST) (k j : Int) : Int := u.2.1 51 (17 * k + j)
def nt_r (u : iST) (k j : Int) : Int := u.2.1 52 (5 * k + j)
/-- the theorems -/
def TB_r (u : iST) : Prop := ∀ k, 0 ≤ k → k < u.1 1 → u.2.1 6 k < u.1 29 ∧ (u.2.1 7 k ≠ -1 → u.2.1 8 k < u.1 29 ∧ 0 ≤ u.2.1 9 k ∧ u.2.1 9 k ≤ 60 ∧ ∀ j, 0 ≤ j → j < u.2.1 9 k → u.2.1 50 (60 * k + j) < u.1 29)
theorem TB_r.keep [DecidableEq Ob] {u v : iST} (h : TB_r u) (h1 : v.1 1 = u.1 1) (h2 : u.1 29 ≤ v.1 29) (hr : ∀ k, k ∈ [6, 7, 8, 9, 50] → v.2.1 k = u.2.1 k) : TB_r v := fun k k0 k1 => by
  rw [h1] at k1
  obtain ⟨a, b⟩ := h k k0 k1
  rw [hr 6 (by decide), hr 7 (by decide), hr 8 (by decide), hr 9 (by decide), hr 50 (by decide)]
  refine ⟨by omega, fun z => ?_⟩
  obtain ⟨c, d, e, f⟩ := b z
  exact ⟨by omega, d, e, fun j j0 j1 => by have := f j j0 j1; omega⟩
def WK_r [DecidableEq Ob] (u : iST) : Prop := RT_r u ∧ BE_r u ∧ (16 < u.1 37 ∨ u.1 37 = -1) ∧ (-1 ≤ u.1 38 ∧ u.1 38 ≤ 6) ∧ TB_r u ∧ SL_r u ∧ (0 ≤ u.1 39 ∧ u.1 39 ≤ 256)
theorem WK_r.rd [DecidableEq Ob] {u : iST} (h : WK_r u) : RdOk_r u := ⟨h.2.1.1, h.2.2.1, h.2.2.2.1⟩
theorem WK_r.rg [DecidableEq Ob] {u v : iST} (h : WK_r u) (g : RG_r rwS_r rwR_r u v) (hs : SL_r v) (h39 : 0 ≤ v.1 39 ∧ v.1 39 ≤ 256) : WK_r v :=
  ⟨g.1, h.2.1.rg h.1 g (by decide) (by decide) (by decide) (by decide) (by decide), by rw [g.s 37 (by decide)]; exact h.2.2.1, by rw [g.s 38 (by decide)]; exact h.2.2.2.1, h.2.2.2.2.1.keep (g.s 1 (by decide)) g.2.1.1 (fun k hk => g.a k (by revert hk; revert k; decide)), hs, h39⟩
def FB_r (u : iST) (k : Int) : Prop := fr_r u k 0 < u.1 29 ∧ fr_r u k 2 < u.1 29 ∧ 0 ≤ fr_r u k 4
/-- what a stage needs of its frame -/
def SV_r (u : iST) (k : Int) : Prop :=
  ((fr_r u k 3 = 3 ∨ fr_r u k 3 = 4) → fr_r u k 5 < u.1 29) ∧ (fr_r u k 3 = 3 → fr_r u k 6 < u.1 29) ∧ (fr_r u k 3 = 4 → fr_r u k 7 < u.1 29) ∧
  (fr_r u k 3 = 6 → (0 ≤ fr_r u k 6 ∧ fr_r u k 6 < u.1 29 ∧ -1 ≤ fr_r u k 10 ∧ fr_r u k 10 + fr_r u k 6 ≤ 160000) ∧ ∀ j, 0 ≤ j → j < 6 → j < fr_r u k 10 → fr_r u k (11 + j) < u.1 29) ∧
  (7 ≤ fr_r u k 3 → fr_r u k 3 ≤ 17 → fr_r u k 5 < u.1 29 ∧ 0 ≤ fr_r u k 5) ∧ (fr_r u k 3 = 7 → u.1 32 = 0 → ∃ n : Nat, n ≤ 6 ∧ LnP_r u n (eR_r' u (fr_r u k 5))) ∧
  (fr_r u k 3 = 12 → fr_r u k 8 < u.1 1) ∧ (13 ≤ fr_r u k 3 → fr_r u k 3 ≤ 15 → (0 ≤ fr_r u k 8 ∧ fr_r u k 8 < u.1 1 ∧ u.2.1 7 (fr_r u k 8) ≠ -1) ∧ (0 ≤ fr_r u k 9 ∧ fr_r u k 9 ≤ 60) ∧ (fr_r u k 3 = 15 → fr_r u k 9 < 60))
theorem FB_r.ext [DecidableEq Ob] {u v : iST} {k : Int} (h : FB_r u k) (h29 : u.1 29 ≤ v.1 29) (he : ∀ j, 0 ≤ j → j < 17 → fr_r v k j = fr_r u k j) : FB_r v k := by
  unfold FB_r at *
  rw [he 0 (by decide) (by decide), he 2 (by decide) (by decide), he 4 (by decide) (by decide)]
  omega
theorem SV_r.ext [DecidableEq Ob] {u v : iST} {k : Int} (h : SV_r u k) (hT : RT_r u) (hC : Ce_r u v) (h32 : v.1 32 = 0 → u.1 32 = 0) (h1 : v.1 1 = u.1 1) (h7 : v.2.1 7 = u.2.1 7) (he : ∀ j, 0 ≤ j → j < 17 → fr_r v k j = fr_r u k j) : SV_r v k := by
  have c := hC.1
  have e3 := he 3 (by decide) (by decide)
  have e5 := he 5 (by decide) (by decide)
  have e6 := he 6 (by decide) (by decide)
  have e7 := he 7 (by decide) (by decide)
  have e8 := he 8 (by decide) (by decide)
  have e9 := he 9 (by decide) (by decide)
  have e10 := he 10 (by decide) (by decide)
  unfold SV_r at *
  rw [e3, e5, e6, e7, e8, e9, e10, h1, h7]
  obtain ⟨a1, a2, a3, a4, a5, a6, a7, a8⟩ := h
  refine ⟨fun z => by have := a1 z; omega, fun z => by have := a2 z; omega, fun z => by have := a3 z; omega, fun z => ?_, fun z y => by have := a5 z y; omega, fun z y => ?_, a7, a8⟩
  · obtain ⟨b, b2⟩ := a4 z
    refine ⟨by omega, fun j j0 j1 j2 => ?_⟩
    rw [he (11 + j) (by omega) (by omega)]
    have := b2 j j0 j1 j2
    omega
  · obtain ⟨n, n6, hn⟩ := a6 z (h32 y)
    have q := a5 (by omega) (by omega)
    rw [(hC.el q.1).2]
    exact ⟨n, n6, hn.ext hT hC (eR_r_r hT _).2.1⟩
def NV_r (u : iST) : Prop := (0 ≤ u.1 26 ∧ u.1 26 ≤ 1000) ∧ ∀ k, 0 ≤ k → k < u.1 26 → nt_r u k 0 < u.1 29 ∧ nt_r u k 2 < u.1 29 ∧ (nt_r u k 3 < u.1 29 ∨ (u.1 27 = 0 ∧ ∃ f, 0 ≤ f ∧ f < u.1 23 ∧ fr_r u f 4 = k))
def cS_r' (s : Int) : Int := if s = 0 then 18 else if s = 6 then 16 else if s = 7 then 14 else if s = 8 ∨ s = 9 ∨ s = 10 ∨ s = 13 then 12 else if s = 15 then 11 else if s = 11 ∨ s = 14 then 10 else if s = 12 then 8 else if s = 16 then 6 else 4
theorem cS_r_r [DecidableEq Ob] (s : Int) : 4 ≤ cS_r' s ∧ cS_r' s ≤ 18 := by
  unfold cS_r'
  repeat' split
  all_goals omega
def cs_r (u : iST) : Nat → Int
  | 0 => 0
  | d + 1 => cs_r u d + cS_r' (fr_r u d 3)
theorem cs_nn_r [DecidableEq Ob] (u : iST) : ∀ d, 0 ≤ cs_r u d
  | 0 => Int.le_refl _
  | d + 1 => by have := cs_nn_r u d; have := (cS_r_r (fr_r u d 3)).1; show 0 ≤ cs_r u d + cS_r' (fr_r u d 3); omega
theorem cs_eq_r [DecidableEq Ob] {u v : iST} : ∀ {d : Nat}, (∀ k : Int, 0 ≤ k → k < d → fr_r v k 3 = fr_r u k 3) → cs_r v d = cs_r u d
  | 0, _ => rfl
  | d + 1, h => by
    show cs_r v d + cS_r' (fr_r v d 3) = cs_r u d + cS_r' (fr_r u d 3)
    rw [cs_eq_r (fun k k0 k1 => h k k0 (by omega)), h d (by omega) (by omega)]
def Po_r (u : iST) (d : Nat) : Int := 20 * (u.1 30 - u.1 31) + cs_r u d
def Pt_r (u : iST) : Int := Po_r u (u.1 23).toNat
def KC_r [DecidableEq Ob] (u : iST) : Prop := WK_r u ∧ NV_r u ∧ u.1 24 < u.1 29 ∧ (0 ≤ u.1 25 ∧ u.1 25 ≤ u.1 1) ∧ (0 ≤ u.1 31 ∧ u.1 31 ≤ u.1 30)
/-- between two stages -/
def IV_r [DecidableEq Ob] (u : iST) : Prop := KC_r u ∧ (0 ≤ u.1 23 ∧ u.1 23 ≤ 60) ∧ ∀ k, 0 ≤ k → k < u.1 23 → FB_r u k ∧ SV_r u k
/-- within a stage of frame d, begun in u0 -/
def IQ_r [DecidableEq Ob] (u0 : iST) (d : Nat) (u : iST) : Prop := KC_r u ∧ (u.1 23 = d + 1 ∧ d < 60) ∧ (∀ k : Int, 0 ≤ k → k < d → FB_r u k ∧ SV_r u k) ∧ FB_r u d ∧ RG_r rwS_r rwR_r u0 u ∧ Po_r u d ≤ Po_r u0 d
theorem KC_r.keep [DecidableEq Ob] {u v : iST} (h : KC_r u) (g : RG_r rwS_r rwR_r u v) (hW : WK_r v) (h23 : v.1 23 = u.1 23) (h24 : v.1 24 = u.1 24) (h26 : v.1 26 = u.1 26) (h52 : v.2.1 52 = u.2.1 52) (hf : ∀ f, 0 ≤ f → f < u.1 23 → fr_r v f 4 = fr_r u f 4) : KC_r v := by
  obtain ⟨a, b, c, d, e⟩ := h
  have c1 := g.2.1.1
  refine ⟨hW, ⟨by rw [h26]; exact b.1, fun k k0 k1 => ?_⟩, by omega, by rw [g.s 25 (by decide), g.s 1 (by decide)]; exact d, by have := g.2.2.1.2.1; omega, g.2.2.1.2.2 e.2⟩
  rw [h26] at k1
  obtain ⟨p, q, r⟩ := b.2 k k0 k1
  unfold nt_r at *
  rw [h52, g.s 27 (by decide), h23]
  refine ⟨by omega, by omega, ?_⟩
  rcases r with r | ⟨r0, f, f0, f1, f2⟩
  · exact Or.inl (by omega)
  · exact Or.inr ⟨r0, f, f0, f1, by rw [hf f f0 f1]; exact f2⟩
theorem Po_r.le [DecidableEq Ob] {u v : iST} {d : Nat} (g : RG_r rwS_r rwR_r u v) (h : ∀ k : Int, 0 ≤ k → k < d → fr_r v k 3 = fr_r u k 3) : Po_r v d ≤ Po_r u d := by
  unfold Po_r
  have := g.2.2.1.2.1
  rw [cs_eq_r h, g.s 30 (by decide)]
  omega
theorem IQ_r.begin [DecidableEq Ob] {u : iST} {d : Nat} (h : IV_r u) (hd : u.1 23 = d + 1) : IQ_r u d u ∧ SV_r u d ∧ Pt_r u = Po_r u d + cS_r' (fr_r u d 3) := by
  obtain ⟨a, b, c⟩ := h
  refine ⟨⟨a, ⟨hd, by omega⟩, fun k k0 k1 => c k k0 (by omega), (c d (by omega) (by omega)).1, RG_r.rf a.1.1, Int.le_refl _⟩, (c d (by omega) (by omega)).2, ?_⟩
  unfold Pt_r
  rw [hd, show ((d : Int) + 1).toNat = d + 1 from by omega]
  show 20 * (u.1 30 - u.1 31) + (cs_r u d + cS_r' (fr_r u d 3)) = 20 * (u.1 30 - u.1 31) + cs_r u d + cS_r' (fr_r u d 3)
  omega
theorem IQ_r.end [DecidableEq Ob] {u0 u : iST} {d : Nat} (h : IQ_r u0 d u) (hs : SV_r u d) : IV_r u ∧ RG_r rwS_r rwR_r u0 u ∧ Pt_r u ≤ Po_r u0 d + cS_r' (fr_r u d 3) := by
  obtain ⟨a, b, c, e, f, g⟩ := h
  refine ⟨⟨a, by omega, fun k k0 k1 => ?_⟩, f, ?_⟩
  · by_cases q : k = d
    · rw [q]; exact ⟨e, hs⟩
    · exact c k k0 (by omega)
  · unfold Pt_r
    rw [b.1, show ((d : Int) + 1).toNat = d + 1 from by omega]
    have : Po_r u (d + 1) = Po_r u d + cS_r' (fr_r u d 3) := by
      show 20 * (u.1 30 - u.1 31) + (cs_r u d + cS_r' (fr_r u d 3)) = 20 * (u.1 30 - u.1 31) + cs_r u d + cS_r' (fr_r u d 3)
      omega
    omega
/-- the room, the terms, the scribes, the evaluator work -/
theorem IQ_r.go [DecidableEq Ob] {u0 u v : iST} {d : Nat} {S R : List Nat} (h : IQ_r u0 d u) (g : RG_r S R u v) (h1 : ∀ k ∈ S, k ∈ ioS_r) (h2 : ∀ k ∈ R, k ∈ ioR_r) (hs : SL_r v) (h39 : 0 ≤ v.1 39 ∧ v.1 39 ≤ 256) : IQ_r u0 d v := by
  have g : RG_r ioS_r ioR_r u v := g.w h1 h2
  have gw : RG_r rwS_r rwR_r u v := g.w (by decide) (by decide)
  obtain ⟨a, b, c, e, f, p⟩ := h
  have r51 : v.2.1 51 = u.2.1 51 := g.a 51 (by decide)
  have he : ∀ k j, fr_r v k j = fr_r u k j := fun k j => by unfold fr_r; rw [r51]
  refine ⟨a.keep gw (a.1.rg gw hs h39) (g.s 23 (by decide)) (g.s 24 (by decide)) (g.s 26 (by decide)) (g.a 52 (by decide)) (fun k _ _ => he k 4), by rw [g.s 23 (by decide)]; exact b, fun k k0 k1 => ?_, e.ext g.2.1.1 (fun j _ _ => he _ j), f.tr gw, Int.le_trans (Po_r.le gw (fun k _ _ => he k 3)) p⟩
  exact ⟨(c k k0 k1).1.ext g.2.1.1 (fun j _ _ => he _ j), (c k k0 k1).2.ext a.1.1 g.2.1 g.2.2.2 (g.s 1 (by decide)) (g.a 7 (by decide)) (fun j _ _ => he _ j)⟩
theorem IQ_r.T [DecidableEq Ob] {u0 u : iST} {d : Nat} (h : IQ_r u0 d u) : RT_r u := h.1.1.1
theorem IQ_r.rm [DecidableEq Ob] {u0 u v : iST} {d : Nat} (h : IQ_r u0 d u) (g : RM_r u v) : IQ_r u0 d v := h.go g (by decide) (by decide) (h.1.1.2.2.2.2.2.1.keep (g.a 54 (by decide))) (by rw [g.s 39 (by decide)]; exact h.1.1.2.2.2.2.2.2)
theorem IQ_r.st [DecidableEq Ob] {u0 u v : iST} {d : Nat} (h : IQ_r u0 d u) (g : RG_r tS1_r mR_r u v) : IQ_r u0 d v := h.go g (by decide) (by decide) (h.1.1.2.2.2.2.2.1.keep (g.a 54 (by decide))) (by rw [g.s 39 (by decide)]; exact h.1.1.2.2.2.2.2.2)
theorem IQ_r.rb [DecidableEq Ob] {u0 u v : iST} {d : Nat} (h : IQ_r u0 d u) (g : RG_r mS_r rbR_r u v) : IQ_r u0 d v := h.go g (by decide) (by decide) (h.1.1.2.2.2.2.2.1.keep (g.a 54 (by decide))) (by rw [g.s 39 (by decide)]; exact h.1.1.2.2.2.2.2.2)
theorem IQ_r.ev [DecidableEq Ob] {u0 u v : iST} {d : Nat} (h : IQ_r u0 d u) (g : RG_r evS_r evR_r u v) : IQ_r u0 d v := h.go g (by decide) (by decide) (h.1.1.2.2.2.2.2.1.keep (g.a 54 (by decide))) (by rw [g.s 39 (by decide)]; exact h.1.1.2.2.2.2.2.2)
theorem IQ_r.tm [DecidableEq Ob] {u0 u v : iST} {d : Nat} (h : IQ_r u0 d u) (g : RG_r tmS_r tmR_r u v) (hV : BV_r v) : IQ_r u0 d v := h.go g (by decide) (by decide) (h.1.1.2.2.2.2.2.1.keep (g.a 54 (by decide))) ⟨hV.1, hV.2.1⟩
theorem IQ_r.sc [DecidableEq Ob] {u0 u v : iST} {d : Nat} (h : IQ_r u0 d u) (g : RG_r [] scR_r u v) (hs : SL_r v) : IQ_r u0 d v := h.go g (by decide) (by decide) hs (by rw [g.s 39 (by decide)]; exact h.1.1.2.2.2.2.2.2)
/-- a place of the frame is set -/
theorem IQ_r.set [DecidableEq Ob] {u0 u : iST} {d : Nat} (h : IQ_r u0 d u) (j x : Int) (j0 : 0 ≤ j) (j1 : j < 17) (n0 : j ≠ 0) (n2 : j ≠ 2) (n4 : j ≠ 4) : IQ_r u0 d (iA u 51 (17 * (d : Int) + j) x) ∧ (∀ i, 0 ≤ i → i < 17 → fr_r (iA u 51 (17 * (d : Int) + j) x) d i = if i = j then x else fr_r u d i) := by
  have hw : ∀ k i, 0 ≤ i → i < 17 → fr_r (iA u 51 (17 * (d : Int) + j) x) k i = if k = d ∧ i = j then x else fr_r u k i := fun k i i0 i1 => by
    show (if 17 * k + i = 17 * (d : Int) + j then x else u.2.1 51 (17 * k + i)) = if k = d ∧ i = j then x else u.2.1 51 (17 * k + i)
    by_cases q : k = d ∧ i = j
    · rw [if_pos q, if_pos (by omega)]
    · rw [if_neg q, if_neg (by omega)]
  have gw : RG_r rwS_r rwR_r u (iA u 51 (17 * (d : Int) + j) x) := (RG_r.rf h.T).A _ _ (by decide) (by decide)
  have e1 : (iA u 51 (17 * (d : Int) + j) x).1 = u.1 := rfl
  have e2 : ∀ k, k ≠ 51 → (iA u 51 (17 * (d : Int) + j) x).2.1 k = u.2.1 k := fun k hk => if_neg hk
  generalize iA u 51 (17 * (d : Int) + j) x = w at *
  have hl : ∀ k i : Int, 0 ≤ i → i < 17 → k ≠ d → fr_r w k i = fr_r u k i := fun k i i0 i1 hk => by rw [hw k i i0 i1, if_neg (fun z => hk z.1)]
  obtain ⟨a, b, c, e, f, p⟩ := h
  have w4 : ∀ k, fr_r w k 4 = fr_r u k 4 := fun k => by rw [hw k 4 (by decide) (by decide), if_neg (fun z => n4 z.2.symm)]
  refine ⟨⟨a.keep gw (a.1.rg gw (a.1.2.2.2.2.2.1.keep (e2 54 (by decide))) (by rw [e1]; exact a.1.2.2.2.2.2.2)) (by rw [e1]) (by rw [e1]) (by rw [e1]) (e2 52 (by decide)) (fun k _ _ => w4 k), by rw [e1]; exact b, fun k k0 k1 => ?_, ?_, f.tr gw, Int.le_trans (Po_r.le gw (fun k _ k1 => hl k 3 (by decide) (by decide) (by omega))) p⟩, fun i i0 i1 => ?_⟩
  · exact ⟨(c k k0 k1).1.ext gw.2.1.1 (fun j j0 j1 => hl _ j j0 j1 (by omega)), (c k k0 k1).2.ext a.1.1 gw.2.1 gw.2.2.2 (by rw [e1]) (e2 7 (by decide)) (fun j j0 j1 => hl _ j j0 j1 (by omega))⟩
  · unfold FB_r at *
    rw [w4, e1, hw d 0 (by decide) (by decide), if_neg (fun z => n0 z.2.symm), hw d 2 (by decide) (by decide), if_neg (fun z => n2 z.2.symm)]
    exact e
  · rw [hw d i i0 i1]
    by_cases q : i = j
    · rw [if_pos q, if_pos ⟨rfl, q⟩]
    · rw [if_neg q, if_neg (fun z => q z.2)]
theorem SV_r.t [DecidableEq Ob] {u : iST} {k : Int} (h : fr_r u k 3 = 0 ∨ fr_r u k 3 = 1 ∨ fr_r u k 3 = 2 ∨ fr_r u k 3 = 5) : SV_r u k := by
  unfold SV_r
  refine ⟨fun z => ?_, fun z => ?_, fun z => ?_, fun z => ?_, fun z y => ?_, fun z => ?_, fun z => ?_, fun z y => ?_⟩ <;> exfalso <;> omega
theorem SV_r.m [DecidableEq Ob] {u : iST} {k : Int} (h : (8 ≤ fr_r u k 3 ∧ fr_r u k 3 ≤ 11) ∨ fr_r u k 3 = 16 ∨ fr_r u k 3 = 17) (h5 : fr_r u k 5 < u.1 29) (h50 : 0 ≤ fr_r u k 5) : SV_r u k := by
  unfold SV_r
  refine ⟨fun _ => h5, fun z => ?_, fun z => ?_, fun z => ?_, fun z y => ⟨h5, h50⟩, fun z => ?_, fun z => ?_, fun z y => ?_⟩ <;> exfalso <;> omega
theorem SV_r.s12 [DecidableEq Ob] {u : iST} {k : Int} (h : fr_r u k 3 = 12) (h5 : fr_r u k 5 < u.1 29) (h50 : 0 ≤ fr_r u k 5) (h8 : fr_r u k 8 < u.1 1) : SV_r u k := by
  unfold SV_r
  refine ⟨fun _ => h5, fun z => ?_, fun z => ?_, fun z => ?_, fun z y => ⟨h5, h50⟩, fun z => ?_, fun z => h8, fun z y => ?_⟩ <;> exfalso <;> omega
theorem SV_r.r [DecidableEq Ob] {u : iST} {k : Int} (h : 13 ≤ fr_r u k 3 ∧ fr_r u k 3 ≤ 15) (h5 : fr_r u k 5 < u.1 29) (h50 : 0 ≤ fr_r u k 5) (h8 : 0 ≤ fr_r u k 8 ∧ fr_r u k 8 < u.1 1 ∧ u.2.1 7 (fr_r u k 8) ≠ -1) (h9 : 0 ≤ fr_r u k 9 ∧ fr_r u k 9 ≤ 60) (h15 : fr_r u k 3 = 15 → fr_r u k 9 < 60) : SV_r u k := by
  unfold SV_r
  refine ⟨fun _ => h5, fun z => ?_, fun z => ?_, fun z => ?_, fun z y => ⟨h5, h50⟩, fun z => ?_, fun z => ?_, fun z y => ⟨h8, h9, h15⟩⟩ <;> exfalso <;> omega

