/-! the class: what rewriting needs, and keeps -/
abbrev rwS : List Nat := [4, 5, 6, 7, 8, 9, 23, 24, 26, 28, 29, 31, 32, 39]
abbrev rwR : List Nat := [16, 17, 18, 19, 20, 21, 22, 27, 28, 29, 30, 35, 36, 37, 38, 39, 40, 41, 42, 43, 51, 52, 54, 55, 56]
abbrev ioS : List Nat := [4, 5, 6, 7, 8, 9, 29, 31, 32, 39]
abbrev ioR : List Nat := [16, 17, 18, 19, 20, 21, 22, 27, 28, 29, 30, 35, 36, 37, 38, 39, 40, 41, 42, 43, 54, 55, 56]
def fr (u : iST) (k j : Int) : Int := u.2.1 51 (17 * k + j)
def nt (u : iST) (k j : Int) : Int := u.2.1 52 (5 * k + j)
/-- the theorems -/
def TB (u : iST) : Prop := ∀ k, 0 ≤ k → k < u.1 1 → u.2.1 6 k < u.1 29 ∧ (u.2.1 7 k ≠ -1 → u.2.1 8 k < u.1 29 ∧ 0 ≤ u.2.1 9 k ∧ u.2.1 9 k ≤ 60 ∧ ∀ j, 0 ≤ j → j < u.2.1 9 k → u.2.1 50 (60 * k + j) < u.1 29)
theorem TB.keep {u v : iST} (h : TB u) (h1 : v.1 1 = u.1 1) (h2 : u.1 29 ≤ v.1 29) (hr : ∀ k, k ∈ [6, 7, 8, 9, 50] → v.2.1 k = u.2.1 k) : TB v := fun k k0 k1 => by
  rw [h1] at k1
  obtain ⟨a, b⟩ := h k k0 k1
  rw [hr 6 (by decide), hr 7 (by decide), hr 8 (by decide), hr 9 (by decide), hr 50 (by decide)]
  refine ⟨by omega, fun z => ?_⟩
  obtain ⟨c, d, e, f⟩ := b z
  exact ⟨by omega, d, e, fun j j0 j1 => by have := f j j0 j1; omega⟩
def WK (u : iST) : Prop := RT u ∧ BE u ∧ (16 < u.1 37 ∨ u.1 37 = -1) ∧ (-1 ≤ u.1 38 ∧ u.1 38 ≤ 6) ∧ TB u ∧ SL u ∧ (0 ≤ u.1 39 ∧ u.1 39 ≤ 256)
theorem WK.rd {u : iST} (h : WK u) : RdOk u := ⟨h.2.1.1, h.2.2.1, h.2.2.2.1⟩
theorem WK.rg {u v : iST} (h : WK u) (g : RG rwS rwR u v) (hs : SL v) (h39 : 0 ≤ v.1 39 ∧ v.1 39 ≤ 256) : WK v :=
  ⟨g.1, h.2.1.rg h.1 g (by decide) (by decide) (by decide) (by decide) (by decide), by rw [g.s 37 (by decide)]; exact h.2.2.1, by rw [g.s 38 (by decide)]; exact h.2.2.2.1, h.2.2.2.2.1.keep (g.s 1 (by decide)) g.2.1.1 (fun k hk => g.a k (by revert hk; revert k; decide)), hs, h39⟩
def FB (u : iST) (k : Int) : Prop := fr u k 0 < u.1 29 ∧ fr u k 2 < u.1 29 ∧ 0 ≤ fr u k 4
/-- what a stage needs of its frame -/
def SV (u : iST) (k : Int) : Prop :=
  ((fr u k 3 = 3 ∨ fr u k 3 = 4) → fr u k 5 < u.1 29) ∧ (fr u k 3 = 3 → fr u k 6 < u.1 29) ∧ (fr u k 3 = 4 → fr u k 7 < u.1 29) ∧
  (fr u k 3 = 6 → (0 ≤ fr u k 6 ∧ fr u k 6 < u.1 29 ∧ -1 ≤ fr u k 10 ∧ fr u k 10 + fr u k 6 ≤ 160000) ∧ ∀ j, 0 ≤ j → j < 6 → j < fr u k 10 → fr u k (11 + j) < u.1 29) ∧
  (7 ≤ fr u k 3 → fr u k 3 ≤ 17 → fr u k 5 < u.1 29 ∧ 0 ≤ fr u k 5) ∧ (fr u k 3 = 7 → u.1 32 = 0 → ∃ n : Nat, n ≤ 6 ∧ LnP u n (eR u (fr u k 5))) ∧
  (fr u k 3 = 12 → fr u k 8 < u.1 1) ∧ (13 ≤ fr u k 3 → fr u k 3 ≤ 15 → (0 ≤ fr u k 8 ∧ fr u k 8 < u.1 1 ∧ u.2.1 7 (fr u k 8) ≠ -1) ∧ (0 ≤ fr u k 9 ∧ fr u k 9 ≤ 60) ∧ (fr u k 3 = 15 → fr u k 9 < 60))
theorem FB.ext {u v : iST} {k : Int} (h : FB u k) (h29 : u.1 29 ≤ v.1 29) (he : ∀ j, 0 ≤ j → j < 17 → fr v k j = fr u k j) : FB v k := by
  unfold FB at *
  rw [he 0 (by decide) (by decide), he 2 (by decide) (by decide), he 4 (by decide) (by decide)]
  omega
theorem SV.ext {u v : iST} {k : Int} (h : SV u k) (hT : RT u) (hC : Ce u v) (h32 : v.1 32 = 0 → u.1 32 = 0) (h1 : v.1 1 = u.1 1) (h7 : v.2.1 7 = u.2.1 7) (he : ∀ j, 0 ≤ j → j < 17 → fr v k j = fr u k j) : SV v k := by
  have c := hC.1
  have e3 := he 3 (by decide) (by decide)
  have e5 := he 5 (by decide) (by decide)
  have e6 := he 6 (by decide) (by decide)
  have e7 := he 7 (by decide) (by decide)
  have e8 := he 8 (by decide) (by decide)
  have e9 := he 9 (by decide) (by decide)
  have e10 := he 10 (by decide) (by decide)
  unfold SV at *
  rw [e3, e5, e6, e7, e8, e9, e10, h1, h7]
  obtain ⟨a1, a2, a3, a4, a5, a6, a7, a8⟩ := h
  refine ⟨fun z => by have := a1 z; omega, fun z => by have := a2 z; omega, fun z => by have := a3 z; omega, fun z => ?_, fun z y => by have := a5 z y; omega, fun z y => ?_, a7, a8⟩
  · obtain ⟨b, b2⟩ := a4 z
    refine ⟨by omega, fun j j0 j1 j2 => ?_⟩
    rw [he (11 + j) (by omega) (by omega)]
    have := b2 j j0 j1 j2
    omega
  · obtain ⟨n, n6, hn⟩ := a6 z (h32 y)
    have q := a5 (by omega) (by omega)
    rw [(hC.el q.1).2]
    exact ⟨n, n6, hn.ext hT hC (eR_r hT _).2.1⟩
def NV (u : iST) : Prop := (0 ≤ u.1 26 ∧ u.1 26 ≤ 1000) ∧ ∀ k, 0 ≤ k → k < u.1 26 → nt u k 0 < u.1 29 ∧ nt u k 2 < u.1 29 ∧ (nt u k 3 < u.1 29 ∨ (u.1 27 = 0 ∧ ∃ f, 0 ≤ f ∧ f < u.1 23 ∧ fr u f 4 = k))
def cS (s : Int) : Int := if s = 0 then 18 else if s = 6 then 16 else if s = 7 then 14 else if s = 8 ∨ s = 9 ∨ s = 10 ∨ s = 13 then 12 else if s = 15 then 11 else if s = 11 ∨ s = 14 then 10 else if s = 12 then 8 else if s = 16 then 6 else 4
theorem cS_r (s : Int) : 4 ≤ cS s ∧ cS s ≤ 18 := by
  unfold cS
  repeat' split
  all_goals omega
def cs (u : iST) : Nat → Int
  | 0 => 0
  | d + 1 => cs u d + cS (fr u d 3)
theorem cs_nn (u : iST) : ∀ d, 0 ≤ cs u d
  | 0 => Int.le_refl _
  | d + 1 => by have := cs_nn u d; have := (cS_r (fr u d 3)).1; show 0 ≤ cs u d + cS (fr u d 3); omega
theorem cs_eq {u v : iST} : ∀ {d : Nat}, (∀ k : Int, 0 ≤ k → k < d → fr v k 3 = fr u k 3) → cs v d = cs u d
  | 0, _ => rfl
  | d + 1, h => by
    show cs v d + cS (fr v d 3) = cs u d + cS (fr u d 3)
    rw [cs_eq (fun k k0 k1 => h k k0 (by omega)), h d (by omega) (by omega)]
def Po (u : iST) (d : Nat) : Int := 20 * (u.1 30 - u.1 31) + cs u d
def Pt (u : iST) : Int := Po u (u.1 23).toNat
def KC (u : iST) : Prop := WK u ∧ NV u ∧ u.1 24 < u.1 29 ∧ (0 ≤ u.1 25 ∧ u.1 25 ≤ u.1 1) ∧ (0 ≤ u.1 31 ∧ u.1 31 ≤ u.1 30)
/-- between two stages -/
def IV (u : iST) : Prop := KC u ∧ (0 ≤ u.1 23 ∧ u.1 23 ≤ 60) ∧ ∀ k, 0 ≤ k → k < u.1 23 → FB u k ∧ SV u k
/-- within a stage of frame d, begun in u0 -/
def IQ (u0 : iST) (d : Nat) (u : iST) : Prop := KC u ∧ (u.1 23 = d + 1 ∧ d < 60) ∧ (∀ k : Int, 0 ≤ k → k < d → FB u k ∧ SV u k) ∧ FB u d ∧ RG rwS rwR u0 u ∧ Po u d ≤ Po u0 d
theorem KC.keep {u v : iST} (h : KC u) (g : RG rwS rwR u v) (hW : WK v) (h23 : v.1 23 = u.1 23) (h24 : v.1 24 = u.1 24) (h26 : v.1 26 = u.1 26) (h52 : v.2.1 52 = u.2.1 52) (hf : ∀ f, 0 ≤ f → f < u.1 23 → fr v f 4 = fr u f 4) : KC v := by
  obtain ⟨a, b, c, d, e⟩ := h
  have c1 := g.2.1.1
  refine ⟨hW, ⟨by rw [h26]; exact b.1, fun k k0 k1 => ?_⟩, by omega, by rw [g.s 25 (by decide), g.s 1 (by decide)]; exact d, by have := g.2.2.1.2.1; omega, g.2.2.1.2.2 e.2⟩
  rw [h26] at k1
  obtain ⟨p, q, r⟩ := b.2 k k0 k1
  unfold nt at *
  rw [h52, g.s 27 (by decide), h23]
  refine ⟨by omega, by omega, ?_⟩
  rcases r with r | ⟨r0, f, f0, f1, f2⟩
  · exact Or.inl (by omega)
  · exact Or.inr ⟨r0, f, f0, f1, by rw [hf f f0 f1]; exact f2⟩
theorem Po.le {u v : iST} {d : Nat} (g : RG rwS rwR u v) (h : ∀ k : Int, 0 ≤ k → k < d → fr v k 3 = fr u k 3) : Po v d ≤ Po u d := by
  unfold Po
  have := g.2.2.1.2.1
  rw [cs_eq h, g.s 30 (by decide)]
  omega
theorem IQ.begin {u : iST} {d : Nat} (h : IV u) (hd : u.1 23 = d + 1) : IQ u d u ∧ SV u d ∧ Pt u = Po u d + cS (fr u d 3) := by
  obtain ⟨a, b, c⟩ := h
  refine ⟨⟨a, ⟨hd, by omega⟩, fun k k0 k1 => c k k0 (by omega), (c d (by omega) (by omega)).1, RG.rf a.1.1, Int.le_refl _⟩, (c d (by omega) (by omega)).2, ?_⟩
  unfold Pt
  rw [hd, show ((d : Int) + 1).toNat = d + 1 from by omega]
  show 20 * (u.1 30 - u.1 31) + (cs u d + cS (fr u d 3)) = 20 * (u.1 30 - u.1 31) + cs u d + cS (fr u d 3)
  omega
theorem IQ.end {u0 u : iST} {d : Nat} (h : IQ u0 d u) (hs : SV u d) : IV u ∧ RG rwS rwR u0 u ∧ Pt u ≤ Po u0 d + cS (fr u d 3) := by
  obtain ⟨a, b, c, e, f, g⟩ := h
  refine ⟨⟨a, by omega, fun k k0 k1 => ?_⟩, f, ?_⟩
  · by_cases q : k = d
    · rw [q]; exact ⟨e, hs⟩
    · exact c k k0 (by omega)
  · unfold Pt
    rw [b.1, show ((d : Int) + 1).toNat = d + 1 from by omega]
    have : Po u (d + 1) = Po u d + cS (fr u d 3) := by
      show 20 * (u.1 30 - u.1 31) + (cs u d + cS (fr u d 3)) = 20 * (u.1 30 - u.1 31) + cs u d + cS (fr u d 3)
      omega
    omega
/-- the room, the terms, the scribes, the evaluator work -/
theorem IQ.go {u0 u v : iST} {d : Nat} {S R : List Nat} (h : IQ u0 d u) (g : RG S R u v) (h1 : ∀ k ∈ S, k ∈ ioS) (h2 : ∀ k ∈ R, k ∈ ioR) (hs : SL v) (h39 : 0 ≤ v.1 39 ∧ v.1 39 ≤ 256) : IQ u0 d v := by
  have g : RG ioS ioR u v := g.w h1 h2
  have gw : RG rwS rwR u v := g.w (by decide) (by decide)
  obtain ⟨a, b, c, e, f, p⟩ := h
  have r51 : v.2.1 51 = u.2.1 51 := g.a 51 (by decide)
  have he : ∀ k j, fr v k j = fr u k j := fun k j => by unfold fr; rw [r51]
  refine ⟨a.keep gw (a.1.rg gw hs h39) (g.s 23 (by decide)) (g.s 24 (by decide)) (g.s 26 (by decide)) (g.a 52 (by decide)) (fun k _ _ => he k 4), by rw [g.s 23 (by decide)]; exact b, fun k k0 k1 => ?_, e.ext g.2.1.1 (fun j _ _ => he _ j), f.tr gw, Int.le_trans (Po.le gw (fun k _ _ => he k 3)) p⟩
  exact ⟨(c k k0 k1).1.ext g.2.1.1 (fun j _ _ => he _ j), (c k k0 k1).2.ext a.1.1 g.2.1 g.2.2.2 (g.s 1 (by decide)) (g.a 7 (by decide)) (fun j _ _ => he _ j)⟩
theorem IQ.T {u0 u : iST} {d : Nat} (h : IQ u0 d u) : RT u := h.1.1.1
theorem IQ.rm {u0 u v : iST} {d : Nat} (h : IQ u0 d u) (g : RM u v) : IQ u0 d v := h.go g (by decide) (by decide) (h.1.1.2.2.2.2.2.1.keep (g.a 54 (by decide))) (by rw [g.s 39 (by decide)]; exact h.1.1.2.2.2.2.2.2)
theorem IQ.st {u0 u v : iST} {d : Nat} (h : IQ u0 d u) (g : RG tS1 mR u v) : IQ u0 d v := h.go g (by decide) (by decide) (h.1.1.2.2.2.2.2.1.keep (g.a 54 (by decide))) (by rw [g.s 39 (by decide)]; exact h.1.1.2.2.2.2.2.2)
theorem IQ.rb {u0 u v : iST} {d : Nat} (h : IQ u0 d u) (g : RG mS rbR u v) : IQ u0 d v := h.go g (by decide) (by decide) (h.1.1.2.2.2.2.2.1.keep (g.a 54 (by decide))) (by rw [g.s 39 (by decide)]; exact h.1.1.2.2.2.2.2.2)
theorem IQ.ev {u0 u v : iST} {d : Nat} (h : IQ u0 d u) (g : RG evS evR u v) : IQ u0 d v := h.go g (by decide) (by decide) (h.1.1.2.2.2.2.2.1.keep (g.a 54 (by decide))) (by rw [g.s 39 (by decide)]; exact h.1.1.2.2.2.2.2.2)
theorem IQ.tm {u0 u v : iST} {d : Nat} (h : IQ u0 d u) (g : RG tmS tmR u v) (hV : BV v) : IQ u0 d v := h.go g (by decide) (by decide) (h.1.1.2.2.2.2.2.1.keep (g.a 54 (by decide))) ⟨hV.1, hV.2.1⟩
theorem IQ.sc {u0 u v : iST} {d : Nat} (h : IQ u0 d u) (g : RG [] scR u v) (hs : SL v) : IQ u0 d v := h.go g (by decide) (by decide) hs (by rw [g.s 39 (by decide)]; exact h.1.1.2.2.2.2.2.2)
/-- a place of the frame is set -/
theorem IQ.set {u0 u : iST} {d : Nat} (h : IQ u0 d u) (j x : Int) (j0 : 0 ≤ j) (j1 : j < 17) (n0 : j ≠ 0) (n2 : j ≠ 2) (n4 : j ≠ 4) : IQ u0 d (iA u 51 (17 * (d : Int) + j) x) ∧ (∀ i, 0 ≤ i → i < 17 → fr (iA u 51 (17 * (d : Int) + j) x) d i = if i = j then x else fr u d i) := by
  have hw : ∀ k i, 0 ≤ i → i < 17 → fr (iA u 51 (17 * (d : Int) + j) x) k i = if k = d ∧ i = j then x else fr u k i := fun k i i0 i1 => by
    show (if 17 * k + i = 17 * (d : Int) + j then x else u.2.1 51 (17 * k + i)) = if k = d ∧ i = j then x else u.2.1 51 (17 * k + i)
    by_cases q : k = d ∧ i = j
    · rw [if_pos q, if_pos (by omega)]
    · rw [if_neg q, if_neg (by omega)]
  have gw : RG rwS rwR u (iA u 51 (17 * (d : Int) + j) x) := (RG.rf h.T).A _ _ (by decide) (by decide)
  have e1 : (iA u 51 (17 * (d : Int) + j) x).1 = u.1 := rfl
  have e2 : ∀ k, k ≠ 51 → (iA u 51 (17 * (d : Int) + j) x).2.1 k = u.2.1 k := fun k hk => if_neg hk
  generalize iA u 51 (17 * (d : Int) + j) x = w at *
  have hl : ∀ k i : Int, 0 ≤ i → i < 17 → k ≠ d → fr w k i = fr u k i := fun k i i0 i1 hk => by rw [hw k i i0 i1, if_neg (fun z => hk z.1)]
  obtain ⟨a, b, c, e, f, p⟩ := h
  have w4 : ∀ k, fr w k 4 = fr u k 4 := fun k => by rw [hw k 4 (by decide) (by decide), if_neg (fun z => n4 z.2.symm)]
  refine ⟨⟨a.keep gw (a.1.rg gw (a.1.2.2.2.2.2.1.keep (e2 54 (by decide))) (by rw [e1]; exact a.1.2.2.2.2.2.2)) (by rw [e1]) (by rw [e1]) (by rw [e1]) (e2 52 (by decide)) (fun k _ _ => w4 k), by rw [e1]; exact b, fun k k0 k1 => ?_, ?_, f.tr gw, Int.le_trans (Po.le gw (fun k _ k1 => hl k 3 (by decide) (by decide) (by omega))) p⟩, fun i i0 i1 => ?_⟩
  · exact ⟨(c k k0 k1).1.ext gw.2.1.1 (fun j j0 j1 => hl _ j j0 j1 (by omega)), (c k k0 k1).2.ext a.1.1 gw.2.1 gw.2.2.2 (by rw [e1]) (e2 7 (by decide)) (fun j j0 j1 => hl _ j j0 j1 (by omega))⟩
  · unfold FB at *
    rw [w4, e1, hw d 0 (by decide) (by decide), if_neg (fun z => n0 z.2.symm), hw d 2 (by decide) (by decide), if_neg (fun z => n2 z.2.symm)]
    exact e
  · rw [hw d i i0 i1]
    by_cases q : i = j
    · rw [if_pos q, if_pos ⟨rfl, q⟩]
    · rw [if_neg q, if_neg (fun z => q z.2)]
theorem SV.t {u : iST} {k : Int} (h : fr u k 3 = 0 ∨ fr u k 3 = 1 ∨ fr u k 3 = 2 ∨ fr u k 3 = 5) : SV u k := by
  unfold SV
  refine ⟨fun z => ?_, fun z => ?_, fun z => ?_, fun z => ?_, fun z y => ?_, fun z => ?_, fun z => ?_, fun z y => ?_⟩ <;> exfalso <;> omega
theorem SV.m {u : iST} {k : Int} (h : (8 ≤ fr u k 3 ∧ fr u k 3 ≤ 11) ∨ fr u k 3 = 16 ∨ fr u k 3 = 17) (h5 : fr u k 5 < u.1 29) (h50 : 0 ≤ fr u k 5) : SV u k := by
  unfold SV
  refine ⟨fun _ => h5, fun z => ?_, fun z => ?_, fun z => ?_, fun z y => ⟨h5, h50⟩, fun z => ?_, fun z => ?_, fun z y => ?_⟩ <;> exfalso <;> omega
theorem SV.s12 {u : iST} {k : Int} (h : fr u k 3 = 12) (h5 : fr u k 5 < u.1 29) (h50 : 0 ≤ fr u k 5) (h8 : fr u k 8 < u.1 1) : SV u k := by
  unfold SV
  refine ⟨fun _ => h5, fun z => ?_, fun z => ?_, fun z => ?_, fun z y => ⟨h5, h50⟩, fun z => ?_, fun z => h8, fun z y => ?_⟩ <;> exfalso <;> omega
theorem SV.r {u : iST} {k : Int} (h : 13 ≤ fr u k 3 ∧ fr u k 3 ≤ 15) (h5 : fr u k 5 < u.1 29) (h50 : 0 ≤ fr u k 5) (h8 : 0 ≤ fr u k 8 ∧ fr u k 8 < u.1 1 ∧ u.2.1 7 (fr u k 8) ≠ -1) (h9 : 0 ≤ fr u k 9 ∧ fr u k 9 ≤ 60) (h15 : fr u k 3 = 15 → fr u k 9 < 60) : SV u k := by
  unfold SV
  refine ⟨fun _ => h5, fun z => ?_, fun z => ?_, fun z => ?_, fun z y => ⟨h5, h50⟩, fun z => ?_, fun z => ?_, fun z y => ⟨h8, h9, h15⟩⟩ <;> exfalso <;> omega
