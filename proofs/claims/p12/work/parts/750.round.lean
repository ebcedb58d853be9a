-- deps: 7491
/-! the class: a ROUND -/
def ClA [DecidableEq Ob] (w : iST) (E : Sp.Env) (j : Int) (d : Sp.Cla) : Prop := ClW w E j ∧ clC w j = d.1 ∧ w.2.1 48 j = (d.2 : Int)
theorem ClA.ot [DecidableEq Ob] {P : Int → Prop} {n r : Nat → Bool} {u v : iST} {E : Sp.Env} {c : Int} {d : Sp.Cla} (h : ClA u E c d) (o : OtC P u v) (hT : CT u) (g : CG n r u v) (hc : P c) : ClA v E c d := by
  obtain ⟨a, b, e⟩ := o.cl hT g hc h.1
  exact ⟨a, by rw [b]; exact h.2.1, by rw [e]; exact h.2.2⟩
/-- what a ROUND leaves -/
def RdO [DecidableEq Ob] (E : Sp.Env) (c wc lf : Int) (rd : Nat) (v w : iST) : Sp.Out → Prop
  | none => OtC (fun j => j ≠ c) v w ∧ w.1 14 = wc - 1 ∧ w.1 15 = lf
  | some (.inl (a, b)) => OtC (fun j => j ≠ c ∧ j ≠ c + 1 ∧ j ≠ 150) v w ∧ w.1 14 = wc + 1 ∧ w.1 15 = lf ∧ ClA w E (c + 1) a ∧ ClA w E c b ∧ a.2 = rd + 1 ∧ b.2 = rd + 1
  | some (.inr (.inl d)) => OtC (fun j => j ≠ c ∧ j ≠ 130 + lf) v w ∧ w.1 14 = wc - 1 ∧ w.1 15 = lf + 1 ∧ ClA w E (130 + lf) d ∧ d.2 = rd + 1
  | some (.inr (.inr d)) => OtC (fun j => j ≠ c) v w ∧ w.1 14 = wc ∧ w.1 15 = lf ∧ ClA w E c d ∧ d.2 = rd + 1
theorem pc_leave [DecidableEq Ob] {c wc lf : Int} {d : Sp.Cla} {Q : iST → Prop} {v : iST} {E : Sp.Env} (hT : CT v) (hC : ClA v E c d) (h14 : v.1 14 = wc) (h15 : v.1 15 = lf) (l20 : 0 ≤ lf ∧ lf < 20) (hcl : c < 130) (hq : ∀ w, CG f8Pn f8Pr v w → OtC (fun j => j ≠ 130 + lf) v w → (∀ k, k ≠ 14 → k ≠ 15 → w.1 k = v.1 k) → w.1 14 = wc - 1 → w.1 15 = lf + 1 → ClA w E (130 + lf) d → w.2.1 52 = v.2.1 52 → Q w) : pv_4_leave c Q v := by
  unfold pv_4_leave
  intro n1 en1 _
  rw [en1, h15]
  refine ⟨fun z => by omega, fun _ => ?_⟩
  intro n4 en4 _ _ _
  rw [en4]
  refine pc_copy1 (E := E) hT (c := 130 + lf) (a := c) (by omega) hC.1 (fun w kw wn hW ew h48 => ?_)
  intro n8 en8 _ _ y1 e1
  have y1e : y1 = iI w 15 (lf + 1) := by rw [e1, en8, wn, h15]
  unfold pv_4_leave_32
  intro n2 en2 _ _ y2 e2
  have g1 : CG f8Pn f8Pr w y1 := by rw [e1]; exact CG_I kw.1.1 (by decide) (by decide)
  have g2 : CG f8Pn f8Pr y1 y2 := by rw [e2]; exact CG_I g1.1 (by decide) (by decide)
  have y2r : y2.2 = w.2 := by rw [e2, e1]; rfl
  have y2n : ∀ k, k ≠ 14 → k ≠ 15 → y2.1 k = v.1 k := fun k h1 h2 => by rw [e2, e1]; show (if k = 14 then _ else if k = 15 then _ else w.1 k) = _; rw [if_neg h1, if_neg h2, wn]
  have y15 : y2.1 15 = lf + 1 := by
    have q : y2.1 15 = y1.1 15 := by rw [e2]; rfl
    rw [q, y1e]; rfl
  have y14 : y2.1 14 = wc - 1 := by
    rw [e2]
    show n2 - 1 = _
    rw [en2, y1e]
    show w.1 14 - 1 = _
    rw [wn, h14]
  have gw := (kw.1.mono f80_P f8C_P).tr (g1.tr g2)
  obtain ⟨hW2, eW2⟩ := hW.up kw.1.1 (g1.tr g2) (fun k _ _ => by rw [y2r])
  exact hq y2 gw ((kw.ot (fun j hj => hj)).tr (OtC.of (fun k _ _ => by rw [y2r]))) y2n y14 y15 ⟨hW2, by rw [eW2, ew]; exact hC.2.1, by rw [y2r, h48]; exact hC.2.2⟩ (by rw [y2r]; exact kw.1.2.2.2 52 (by decide))
theorem OtC.J [DecidableEq Ob] {P : Int → Prop} {u v : iST} (g : CG f8Jn f8Jr u v) : OtC P u v := OtC.of (fun k h1 h2 => g.2.2.2 k (by
  have : k = 46 ∨ k = 47 ∨ k = 48 ∨ k = 49 := by omega
  rcases this with q | q | q | q <;> rw [q] <;> rfl))
theorem EnvC.P [DecidableEq Ob] {u v : iST} {E : Sp.Env} (h : EnvC u E) (hT : CT u) (g : CG f8Pn f8Pr u v) : EnvC v E := by
  have hn : ∀ k, (k = 0 ∨ k = 1 ∨ k = 25 ∨ k = 27) → v.1 k = u.1 k := fun k hk => g.2.2.1 k (by rcases hk with q | q | q | q <;> rw [q] <;> rfl)
  have hr : ∀ k, k ≤ 13 → v.2.1 k = u.2.1 k := fun k hk => g.2.2.2 k (by
    have : k = 0 ∨ k = 1 ∨ k = 2 ∨ k = 3 ∨ k = 4 ∨ k = 5 ∨ k = 6 ∨ k = 7 ∨ k = 8 ∨ k = 9 ∨ k = 10 ∨ k = 11 ∨ k = 12 ∨ k = 13 := by omega
    rcases this with q | q | q | q | q | q | q | q | q | q | q | q | q | q <;> rw [q] <;> rfl)
  exact ⟨h.1.mono hT g (hn 0 (by decide)) (fun k hk => hr k (by omega)), h.2.1, h.2.2.1, h.2.2.2.1.mono hT g (hn 1 (by decide)) (fun k h1 h2 => hr k h2) (g.2.2.2 50 (by decide)), by rw [hn 25 (by decide), hn 1 (by decide)]; exact h.2.2.2.2.1, by rw [hn 27 (by decide)]; exact h.2.2.2.2.2⟩
theorem roundGo_mono [DecidableEq Ob] {E : Sp.Env} {rd : Nat} : ∀ (n : Nat) (pre post : List Ob) (ch : Bool), Mono (Sp.roundGo E rd n pre post ch)
  | 0, pre, [], ch => by rw [rg_nil]; exact Mono.ite Mono.ret (Mono.ite Mono.fail Mono.ret)
  | n + 1, pre, [], ch => by rw [rg_nil]; exact Mono.ite Mono.ret (Mono.ite Mono.fail Mono.ret)
  | 0, _, _ :: _, _ => Mono.fail
  | n + 1, pre, x :: post, ch => by
    have mb : ∀ l, Mono (Sp.bounded l) := fun l => by unfold Sp.bounded; exact Mono.ite Mono.ret Mono.fail
    refine Mono.bd (nots_mono _) (fun ctx => Mono.bd (rw_mono _ _ _ _) (fun v => ?_))
    refine Mono.ite Mono.ret (Mono.ite ?_ (Mono.ite (roundGo_mono n _ _ _) (Mono.ite (roundGo_mono n _ _ _) (Mono.ite (roundGo_mono n _ _ _) (roundGo_mono n _ _ _)))))
    unfold Sp.splitC
    exact Mono.bd (Mono.ite Mono.not Mono.ret) (fun _ => Mono.bd (Mono.ite Mono.not Mono.ret) (fun _ => Mono.bd Mono.not (fun _ => Mono.bd (mb _) (fun _ => Mono.bd (mb _) (fun _ => Mono.ret)))))
theorem clX [DecidableEq Ob] {v : iST} {E : Sp.Env} {c : Int} {x : Ob} (h : ClW v E c) (hx : x ∈ clC v c) : ExT v x := by
  have hl := h.1
  have hlen := clC_len v c
  obtain ⟨i, hi, e⟩ := List.getElem_of_mem hx
  have hg := clC_get (u := v) (c := c) (i := i) (by omega)
  rw [List.getElem?_eq_getElem hi] at hg
  have hn := h.2.1 (i : Int) (by omega) (by omega)
  exact ⟨_, hn.1, by rw [← Option.some.inj hg]; exact e⟩
theorem pc_makeRound [DecidableEq Ob] {α : Type} {δ : Nat} {c wc lf B : Int} {rd : Nat} {Q : iST → Prop} {u0 v : iST} {E : Sp.Env} {R : EStateM.Result Unit Sp.Wk α} {K : Sp.Out → Sp.M α} (hP : PdK_d B δ f8Pn f8Pr u0 v R (Sp.bd (Sp.roundGo E rd 31 [] (clC v c) false) K)) (fit : Fit (B + 16) R) (hK : ∀ a, Mono (K a)) (hE : EnvC v E) (hC : ClW v E c) (h48 : v.2.1 48 c = (rd : Int)) (h32 : v.1 32 = 0) (h16 : v.1 16 = 0) (h30 : v.1 30 ≤ 1000) (h14 : v.1 14 = wc) (hcw : c + 1 = 120 + wc) (w10 : 1 ≤ wc ∧ wc < 10) (h15 : v.1 15 = lf) (l20 : 0 ≤ lf ∧ lf < 20) (h26 : 0 ≤ v.1 26 ∧ v.1 26 ≤ v.1 31) (hG : NtG E v)
    (hq : ∀ w o, CG f8Pn f8Pr v w → w.1 32 = 0 → RdO E c wc lf rd v w o → PdK_d B 0 f8Pn f8Pr u0 w R (K o) → TrO E rd c v w o → Q w) (hbad : ∀ w, CG f8Pn f8Pr v w → w.1 32 ≠ 0 → (∃ s, Dd_d B 2000 w s ∧ R = .error () s) → Q w) : pv_4_makeRound c Q v := by
  have hT := hP.1.1
  have fit0 : Fit B R := by unfold Fit at fit ⊢; omega
  have hP := hP.zero (δ' := 0) h32
  unfold pv_4_makeRound
  intro n1 en1 _ _ y0 e0
  rw [en1, h48] at e0
  have k0 : CkC c v y0 := by rw [e0]; exact CkC_A hT (by decide) (by decide)
  have y0r : ∀ k, k ≠ 48 → y0.2.1 k = v.2.1 k := fun k hk => by rw [e0, iAc_ne _ _ _ hk]
  have y0n : y0.1 = v.1 := by rw [e0]; rfl
  have y048 : y0.2.1 48 c = (rd : Int) + 1 := by rw [e0, iAc_at]
  have g0 : CG f8Pn f8Pr v y0 := k0.1.mono f80_P f8C_P
  have el0 : clC y0 c = clC v c := by
    unfold clC lsC
    rw [y0r 46 (by decide), y0r 49 (by decide)]
    exact List.map_congr_left (fun i _ => oc_same k0.2.1 _)
  have hC0 : ClW y0 E c := by
    refine ⟨by rw [y0r 46 (by decide)]; exact hC.1, fun i i0 i1 => ?_, by rw [el0]; exact hC.2.2.1, by rw [y0r 47 (by decide), el0]; exact hC.2.2.2⟩
    rw [y0r 46 (by decide)] at i1
    rw [y0r 49 (by decide)]
    exact ((hC.2.1 i i0 i1).up hT k0.1).1
  have hP0 : PdK_d B 0 f8Pn f8Pr u0 y0 R (Sp.bd (Sp.roundGo E rd 31 [] (clC v c) false) K) := hP.on g0 (fun _ h => h) (fun _ h => h) (by rw [y0n]) (by rw [y0n]) (by rw [y0n]) (by rw [y0n])
  have TI0 : TrI E rd c v y0 31 [] (clC v c) false := ⟨NtK.of (by rw [y0n]) (by rw [y0n]; exact Int.le_refl _) (y0r 52 (by decide)), ⟨by rw [y0n]; exact h26.2, hG.keep hT g0 (by rw [y0n]) (fun i _ => by rw [y0r 52 (by decide)])⟩, [], (show v.1 26 = y0.1 26 by rw [y0n]), fun X _ tr2 o h => h⟩
  have hl := hC.1
  have hlen := clC_len v c
  refine pv_4_makeRound_17_i (fun x1 x2 x3 x4 y => x1 = c ∧ ∃ (n : Nat) (pre post : List Ob) (ch : Bool), x3 = (pre.length : Int) ∧ bq x2 ch ∧ 0 ≤ x4 ∧ x4 + (post.length : Int) ≤ 30 ∧ post.length ≤ n ∧ CG f8Pn f8Pr v y ∧ OtC (fun j => j ≠ c) v y ∧ (y.1 14 = wc ∧ y.1 15 = lf ∧ y.1 32 = 0) ∧ ClW y E c ∧ clC y c = pre ++ post ∧ y.2.1 48 c = (rd : Int) + 1 ∧ PdK_d B 0 f8Pn f8Pr u0 y R (Sp.bd (Sp.roundGo E rd n pre post ch) K) ∧ TrI E rd c v y n pre post ch) ?_ ⟨rfl, 31, [], clC v c, false, rfl, ⟨fun _ => rfl, fun _ => rfl⟩, Int.le_refl _, by omega, by omega, g0, k0.ot (fun j hj => hj), ⟨by rw [y0n]; exact h14, by rw [y0n]; exact h15, by rw [y0n]; exact h32⟩, hC0, el0, y048, hP0, TI0⟩
  rintro x1 x2 x3 x4 y ⟨b1, n, pre, post, ch, b3, hch, i0, i1, hn, gy, oty, ⟨y14, y15, y32⟩, hCy, ely, y48, hPy, hTr⟩
  rw [b1]
  have hTy := gy.1
  have hEy := hE.P hT gy
  have hly := hCy.1
  have hleny := clC_len y c
  rw [ely, List.length_append] at hleny
  have trEnd : post = [] → ∀ o : Sp.Out, (∀ X, RdT X rd n pre [] ch [] o) → TrO E rd c v y o := fun hp o hr => by
    obtain ⟨t1, t2, tr1, t3, t4⟩ := hTr
    rw [hp] at t4
    refine ⟨t1, t2, tr1, t3, fun X hX => ?_⟩
    have q := t4 X hX [] o (hr X)
    rw [List.append_nil] at q
    exact q
  -- the end of a ROUND
  have out : post = [] → pv_4_makeRound_250 Q c x2 y := by
    intro hp
    rw [hp, rg_nil] at hPy
    rw [hp, List.append_nil] at ely
    unfold pv_4_makeRound_250
    refine ⟨fun z => ?_, fun z => ?_⟩
    · rw [hch.t z] at hPy
      unfold pv_1_isTooBig
      intro n1' en1' _
      rw [en1', hCy.2.2.2, ely]
      have hPy : PdK_d B 0 f8Pn f8Pr u0 y R (Sp.bd (if 400 < Sp.szL pre then Sp.fail else Sp.ret (some (.inr (.inr (pre, rd + 1))))) K) := hPy
      refine ⟨fun z2 _ => ⟨fun _ => ?_, fun q => absurd rfl q⟩, fun z2 _ => ⟨(fun q => by cases q), fun _ => ?_⟩⟩
      · rw [if_neg (by omega)] at hPy
        refine hq y (some (.inr (.inr (pre, rd + 1)))) gy y32 ⟨oty, y14, y15, ⟨hCy, ely, ?_⟩, rfl⟩ (show PdK_d B 0 f8Pn f8Pr u0 y R (K (some (.inr (.inr (pre, rd + 1))))) from ?_) (trEnd hp _ (fun X => by rw [RdT_nil, hch.t z]; exact ⟨rfl, fun _ => by omega, rfl⟩))
        · rw [y48]; show _ = ((rd + 1 : Nat) : Int); omega
        · exact hPy
      · rw [if_pos (by omega)] at hPy
        obtain ⟨s, hlv, e⟩ := hPy.live y32
        exact blame_dead hTy (by decide) (fun w gw w32 => hbad w (gy.tr (gw.mono f8T_P f80_any)) w32 ⟨s, ⟨w32, hlv.2.1.cg gw (by decide) (by decide) rfl, by have h1 := hlv.2.2; have h2 := gw.2.2.1 29 (by decide); omega⟩, e⟩)
    · rw [hch.f (Decidable.not_not.mp z)] at hPy
      have hPy : PdK_d B 0 f8Pn f8Pr u0 y R (K (some (.inr (.inl (pre, rd + 1))))) := hPy
      refine pc_leave (d := (pre, rd + 1)) hTy ⟨hCy, ely, by rw [y48]; show _ = ((rd + 1 : Nat) : Int); omega⟩ y14 y15 l20 (by omega) (fun w gw otw wn w14 w15 hA w52 => ?_)
      exact hq w (some (.inr (.inl (pre, rd + 1)))) (gy.tr gw) (by rw [wn 32 (by decide) (by decide)]; exact y32) ⟨(oty.sub (fun j hj => hj.1)).tr (otw.sub (fun j hj => hj.2)), w14, w15, hA, rfl⟩ (hPy.on gw (fun _ h => h) (fun _ h => h) (wn 29 (by decide) (by decide)) (wn 30 (by decide) (by decide)) (wn 31 (by decide) (by decide)) (wn 32 (by decide) (by decide))) ((trEnd hp _ (fun X => by rw [RdT_nil, hch.f (Decidable.not_not.mp z)]; exact ⟨rfl, (fun q => by cases q), rfl⟩)).keep hTy gw (wn 26 (by decide) (by decide)) (wn 31 (by decide) (by decide)) w52)
  unfold pv_4_makeRound_17b
  refine ⟨fun z => by omega, fun _ => ?_⟩
  intro n6 en6 _
  rw [en6, b3]
  refine ⟨fun z => out (List.eq_nil_of_length_eq_zero (by omega)), fun z => ?_⟩
  obtain ⟨x, post', ep⟩ : ∃ x l, post = x :: l := by
    cases post with
    | nil => simp at hleny; omega
    | cons a l => exact ⟨a, l, rfl⟩
  obtain ⟨n', en'⟩ : ∃ m, n = m + 1 := ⟨n - 1, by rw [ep] at hn; simp at hn; omega⟩
  rw [ep] at hn i1 ely hleny hPy hTr
  rw [en'] at hPy hn hTr
  have hn : post'.length ≤ n' := by simp at hn; omega
  have i1 : x4 + ((post'.length + 1 : Nat) : Int) ≤ 30 := i1
  have hleny : pre.length + (post'.length + 1) = (y.2.1 46 c).toNat := hleny
  intro _ _ n7 en7 _
  have nd := hCy.2.1 (pre.length : Int) (by omega) (by omega)
  rw [← en7] at nd
  have hget := clC_get (u := y) (c := c) (i := pre.length) (by omega)
  rw [ely, List.getElem?_append_right (Nat.le_refl _), Nat.sub_self, ← en7] at hget
  have ex : x = oc y n7 := Option.some.inj hget
  have htk : (clC y c).take pre.length = pre := by rw [ely, List.take_append_of_le_length (Nat.le_refl _), List.take_length]
  have hdp : (clC y c).drop (pre.length + 1) = post' := by
    rw [ely, ← List.drop_drop, List.drop_append_of_le_length (Nat.le_refl _), List.drop_length]
    rfl
  -- what comes behind the rewriting
  have hgo : Sp.roundGo E rd (n' + 1) pre (x :: post') ch = Sp.bd (Sp.nots (pre ++ post')) fun ctx => Sp.bd (Sp.rw E 60 ctx x true) fun v =>
    if v = Ob.t then Sp.ret none
    else if Sp.splits v then Sp.splitC pre post' v rd
    else if v = Ob.nil then Sp.roundGo E rd n' pre post' true
    else if v = x then Sp.roundGo E rd n' (pre ++ [x]) post' ch
    else if Ob.has pre v then Sp.roundGo E rd n' pre post' true
    else Sp.roundGo E rd n' (pre ++ [v]) (post'.filter (· ≠ v)) true := rfl
  rw [hgo] at hPy
  simp only [bd_assoc] at hPy
  have mnV : ∀ v : Ob, Mono (Sp.bd (if v = Ob.t then Sp.ret none else if Sp.splits v then Sp.splitC pre post' v rd else if v = Ob.nil then Sp.roundGo E rd n' pre post' true else if v = x then Sp.roundGo E rd n' (pre ++ [x]) post' ch else if Ob.has pre v then Sp.roundGo E rd n' pre post' true else Sp.roundGo E rd n' (pre ++ [v]) (post'.filter (· ≠ v)) true) K) := by
    intro v
    have mb : ∀ l, Mono (Sp.bounded l) := fun l => by unfold Sp.bounded; exact Mono.ite Mono.ret Mono.fail
    refine Mono.bd (Mono.ite Mono.ret (Mono.ite ?_ (Mono.ite (roundGo_mono _ _ _ _) (Mono.ite (roundGo_mono _ _ _ _) (Mono.ite (roundGo_mono _ _ _ _) (roundGo_mono _ _ _ _)))))) hK
    unfold Sp.splitC
    exact Mono.bd (Mono.ite Mono.not Mono.ret) (fun _ => Mono.bd (Mono.ite Mono.not Mono.ret) (fun _ => Mono.bd Mono.not (fun _ => Mono.bd (mb _) (fun _ => Mono.bd (mb _) (fun _ => Mono.ret)))))
  have dead : ∀ w, CG f8Pn f8Pr v w → w.1 32 ≠ 0 → (∃ s, Dd_d B 2000 w s ∧ R = .error () s) → pv_4_makeRound_97 (fun x1 x2 x3 x4 y => x1 = c ∧ ∃ (n : Nat) (pre post : List Ob) (ch : Bool), x3 = (pre.length : Int) ∧ bq x2 ch ∧ 0 ≤ x4 ∧ x4 + (post.length : Int) ≤ 30 ∧ post.length ≤ n ∧ CG f8Pn f8Pr v y ∧ OtC (fun j => j ≠ c) v y ∧ (y.1 14 = wc ∧ y.1 15 = lf ∧ y.1 32 = 0) ∧ ClW y E c ∧ clC y c = pre ++ post ∧ y.2.1 48 c = (rd : Int) + 1 ∧ PdK_d B 0 f8Pn f8Pr u0 y R (Sp.bd (Sp.roundGo E rd n pre post ch) K) ∧ TrI E rd c v y n pre post ch) Q c x2 (pre.length : Int) x4 n7 (-1) w := by
    rintro w gw w32 ⟨s, hd, e⟩
    unfold pv_4_makeRound_97
    refine ⟨fun q => absurd rfl q, fun _ => ?_⟩
    exact blame_dead gw.1 (by decide) (fun z gz z32 => hbad z (gw.tr (gz.mono f8T_P f80_any)) z32 ⟨s, ⟨z32, hd.2.1.cg gz (by decide) (by decide) rfl, by have h1 := hd.2.2; have h2 := gz.2.2.1 29 (by decide); omega⟩, e⟩)
  refine pc_rowOfOthersV (p := pre.length) (by rw [htk, hdp]; exact hPy) f8B_P f8W_P fit0 (fun ctx => Mono.bd (rw_mono _ _ _ _) mnV) hCy y32 (fun row w ctx gw w32 cx hPw hvl => ?_) (fun row w gw w32 hd => ?_)
  rotate_left
  · intro n9 en9 _
    rw [en9]
    exact ⟨fun _ => dead w (gy.tr (gw.mono f8B_P f8W_P)) w32 hd, fun q => absurd w32 q⟩
  intro n9 en9 _
  rw [en9]
  refine ⟨fun q => absurd w32 q, fun _ => ?_⟩
  have gvw : CG f8Pn f8Pr v w := gy.tr (gw.mono f8B_P f8W_P)
  rw [htk, hdp] at hvl
  have hTrw : TrI E rd c v w (n' + 1) pre (x :: post') ch := hTr.keep hTy gw (gw.2.2.1 26 (by decide)) (gw.2.2.1 31 (by decide)) (gw.2.2.2 52 (by decide))
  intro n23 en23 _
  rw [en23, gvw.2.2.1 16 (by decide), h16]
  refine ⟨fun _ => ?_, fun q => absurd rfl q⟩
  obtain ⟨ndw, edw⟩ := nd.up hTy gw
  have otw : OtC (fun j => j ≠ c) v w := oty.tr (OtC.of (f8B_rows gw))
  have w14 : w.1 14 = wc := by rw [gw.2.2.1 14 (by decide)]; exact y14
  have w15 : w.1 15 = lf := by rw [gw.2.2.1 15 (by decide)]; exact y15
  have w48 : w.2.1 48 c = (rd : Int) + 1 := by rw [f8B_rows gw 48 (by decide) (by decide)]; exact y48
  obtain ⟨hCw, elw⟩ := hCy.up hTy gw (f8B_rows gw)
  rw [ex, ← edw] at hPw
  have hPw : PdK_d B 0 f8Pn f8Pr u0 w R (Sp.bd (Sp.rw E 60 ctx (oc w n7) (decide ((1 : Int) = 1))) _) := hPw
  refine pc_rewrittenG hPw f8Jn_P f8Jr_P (hE.P hT gvw) fit0 (by rw [edw, ← ex]; exact mnV) (by rw [gvw.2.2.1 30 (by decide)]; exact h30) w32 (Or.inr rfl) ndw cx ⟨by have := hTrw.1.1; have := h26.1; omega, hTrw.2.1.1⟩ (fun a z gz na z32 hPz kz no nr => ?_) (fun z gz z32 hd => ?_)
  rotate_left
  · unfold pv_4_makeRound_95
    exact dead z (gvw.tr (gz.mono f8Jn_P f8Jr_P)) z32 hd
  -- it came out as a
  rw [edw, ← ex] at hPz
  have gvz : CG f8Pn f8Pr v z := gvw.tr (gz.mono f8Jn_P f8Jr_P)
  have otz : OtC (fun j => j ≠ c) v z := otw.tr (OtC.J gz)
  have hTz := gz.1
  have z14 : z.1 14 = wc := by rw [gz.2.2.1 14 (by decide)]; exact w14
  have z15 : z.1 15 = lf := by rw [gz.2.2.1 15 (by decide)]; exact w15
  obtain ⟨hCz, elz, z48⟩ := (OtC.J (P := fun _ => True) gz).cl gw.1 gz trivial hCw
  rw [w48] at z48
  have elz : clC z c = pre ++ x :: post' := by rw [elz, elw]; exact ely
  obtain ⟨ndz, edz⟩ := ndw.up gw.1 gz
  rw [edw, ← ex] at edz
  obtain ⟨N1, N2, tr1, N3, N4⟩ := TrI.note (n := n') hTrw h26.1 gw.1 gz kz no ndz.1 edz (cx.up gw.1 gz) na hvl (hTrw.2.1.2.addR gw.1 gz kz.2.2 nr)
  have trO : ∀ o : Sp.Out, (∀ X, XoV X z → RdT X rd 31 [] (clC v c) false (tr1 ++ []) o) → TrO E rd c v z o := fun o h => ⟨N1, N2, tr1, N3, fun X hX => by have h := h X hX; rw [List.append_nil] at h; exact h⟩
  have trN : ∀ (q : iST) (pre' post'' : List Ob) (ch' : Bool), CG f8Pn f8Pr z q → q.1 26 = z.1 26 → q.1 31 = z.1 31 → q.2.1 52 = z.2.1 52 → (∀ X, XoV X z → ∀ (tr2 : TrL) (o : Sp.Out), RdT X rd n' pre' post'' ch' tr2 o → RdT X rd 31 [] (clC v c) false (tr1 ++ tr2) o) → TrI E rd c v q n' pre' post'' ch' := fun q pre' post'' ch' gq e1 e2 e3 h => TrI.keep (y := z) ⟨N1, N2, tr1, N3, h⟩ gz.1 gq e1 e2 e3
  have trS : ∀ (q : iST) (o : Sp.Out), CG f8Pn f8Pr z q → q.1 26 = z.1 26 → q.1 31 = z.1 31 → q.2.1 52 = z.2.1 52 → (∀ X, XoV X q → RdT X rd 31 [] (clC v c) false (tr1 ++ []) o) → TrO E rd c v q o := fun q o gq e1 e2 e3 h => ⟨N1.tr (NtK.of e1 (Int.le_of_eq e2.symm) e3), ⟨by rw [e1, e2]; exact N2.1, N2.2.keep hTz gq e1 (fun i _ => by rw [e3])⟩, tr1, by rw [e1]; exact NtL.keep hTz gq tr1 _ _ N3 (fun i _ => by rw [e3]), fun X hX => by have h := h X hX; rw [List.append_nil] at h; exact h⟩
  have a0 := na.1.1
  have k1 := katC hTz 1 (o := Ob.t) (by decide) (by decide) rfl na.1.1 na.1.2
  have k0' := oc_nil hTz na.1
  have isame := hTz.1.inj na.1.1 na.1.2 ndz.1.1 ndz.1.2
  rw [edz] at isame
  have htkz : (clC z c).take pre.length = pre := by rw [elz, List.take_append_of_le_length (Nat.le_refl _), List.take_length]
  have hdpz : (clC z c).drop (pre.length + 1) = post' := by
    rw [elz, ← List.drop_drop, List.drop_append_of_le_length (Nat.le_refl _), List.drop_length]
    rfl
  have z46 : (pre.length : Int) < z.2.1 46 c := by
    have h1 := clC_len z c
    rw [elz, List.length_append] at h1
    have h1 : pre.length + (post'.length + 1) = (z.2.1 46 c).toNat := h1
    omega
  unfold pv_4_makeRound_95 pv_4_makeRound_97
  refine ⟨fun _ => ?_, fun q => by omega⟩
  refine ⟨fun nt => ?_, fun yt => ?_⟩
  rotate_left
  · rw [if_pos (k1.mp (Decidable.not_not.mp yt))] at hPz
    intro n20 en20 _ _ z2 e2
    have g2 : CG f8Pn f8Pr z z2 := by rw [e2]; exact CG_I hTz (by decide) (by decide)
    have z2n : ∀ k, k ≠ 14 → z2.1 k = z.1 k := fun k hk => by rw [e2]; exact if_neg hk
    exact hq z2 none (gvz.tr g2) (by rw [z2n 32 (by decide)]; exact z32) ⟨otz.tr (OtC.of (fun k _ _ => by rw [e2]; rfl)), by rw [e2]; show n20 - 1 = _; rw [en20, z14], by rw [z2n 15 (by decide)]; exact z15⟩ ((show PdK_d B 0 f8Pn f8Pr u0 z R (K none) from hPz).on g2 (fun _ h => h) (fun _ h => h) (z2n 29 (by decide)) (z2n 30 (by decide)) (z2n 31 (by decide)) (z2n 32 (by decide))) ((trO none (fun X hX => N4 X hX [] none (by rw [if_pos (k1.mp (Decidable.not_not.mp yt))]; exact ⟨rfl, rfl⟩))).keep hTz g2 (z2n 26 (by decide)) (z2n 31 (by decide)) (by rw [e2]; rfl))
  rw [if_neg (fun q => nt (k1.mpr q))] at hPz
  -- a split
  have spl : Sp.splits (oc z a) = true → pv_4_makeRound_177 Q c (pre.length : Int) a z := by
    intro hsp
    rw [if_pos hsp] at hPz
    unfold pv_4_makeRound_177
    refine pc_splitV (rd := rd) (p := pre.length) (by rw [htkz, hdpz]; exact hPz) fit hK hCz z46 na hsp z32 z14 hcw w10 z48 (fun q1 a1 b1' ot1 g1 q32 q14 q15 q31 hA hB hP1 hsv => ?_) (fun q1 g1 q32 hd => hbad q1 (gvz.tr g1) q32 hd)
    exact hq q1 (some (.inl ((a1, rd + 1), (b1', rd + 1)))) (gvz.tr g1) q32 ⟨(otz.sub (fun j hj => hj.1)).tr ot1, q14, by rw [q15]; exact z15, ⟨hA.1, hA.2.1, by rw [hA.2.2.2]; show _ = ((rd + 1 : Nat) : Int); omega⟩, ⟨hB.1, hB.2.1, by rw [hB.2.2.2]; show _ = ((rd + 1 : Nat) : Int); omega⟩, rfl, rfl⟩ hP1 (trS q1 _ g1 q31.2.1 q31.1 q31.2.2 (fun X hX => N4 X (hX.dn hTz g1) [] _ (by rw [if_neg (fun q => nt (k1.mpr q)), if_pos hsp]; exact ⟨rfl, by rw [htkz, hdpz] at hsv; exact hsv, by rw [← hA.2.1]; exact fun x hx => hX x (clX hA.1 hx), by rw [← hB.2.1]; exact fun x hx => hX x (clX hB.1 hx)⟩)))
  -- none
  have nospl : Sp.splits (oc z a) = false → pv_4_makeRound_186 (fun x1 x2 x3 x4 y => x1 = c ∧ ∃ (n : Nat) (pre post : List Ob) (ch : Bool), x3 = (pre.length : Int) ∧ bq x2 ch ∧ 0 ≤ x4 ∧ x4 + (post.length : Int) ≤ 30 ∧ post.length ≤ n ∧ CG f8Pn f8Pr v y ∧ OtC (fun j => j ≠ c) v y ∧ (y.1 14 = wc ∧ y.1 15 = lf ∧ y.1 32 = 0) ∧ ClW y E c ∧ clC y c = pre ++ post ∧ y.2.1 48 c = (rd : Int) + 1 ∧ PdK_d B 0 f8Pn f8Pr u0 y R (Sp.bd (Sp.roundGo E rd n pre post ch) K) ∧ TrI E rd c v y n pre post ch) Q c x2 (pre.length : Int) x4 n7 a z := by
    intro hns
    rw [if_neg (by rw [hns]; decide)] at hPz
    -- it changed
    have chg : ¬ (oc z a = x ∧ oc z a ≠ Ob.nil) → pv_4_makeRound_214 (fun x1 x2 x3 x4 y => x1 = c ∧ ∃ (n : Nat) (pre post : List Ob) (ch : Bool), x3 = (pre.length : Int) ∧ bq x2 ch ∧ 0 ≤ x4 ∧ x4 + (post.length : Int) ≤ 30 ∧ post.length ≤ n ∧ CG f8Pn f8Pr v y ∧ OtC (fun j => j ≠ c) v y ∧ (y.1 14 = wc ∧ y.1 15 = lf ∧ y.1 32 = 0) ∧ ClW y E c ∧ clC y c = pre ++ post ∧ y.2.1 48 c = (rd : Int) + 1 ∧ PdK_d B 0 f8Pn f8Pr u0 y R (Sp.bd (Sp.roundGo E rd n pre post ch) K) ∧ TrI E rd c v y n pre post ch) Q c (pre.length : Int) x4 a 0 z := by
      intro hno
      unfold pv_4_makeRound_214 pv_4_makeRound_219
      refine ⟨fun q => absurd rfl q, fun _ => ?_⟩
      have hPn : ∀ {q : iST} {M : Sp.M α}, CkC c z q → q.1 = z.1 → PdK_d B 0 f8Pn f8Pr u0 z R M → PdK_d B 0 f8Pn f8Pr u0 q R M := fun {q M} kq qn h => h.on (kq.1.mono f80_P f8C_P) (fun _ h => h) (fun _ h => h) (by rw [qn]) (by rw [qn]) (by rw [qn]) (by rw [qn])
      refine pc_stands hTz hCz (by omega) z46 na (fun q hor kq qn q48 hCq eq => ⟨fun _ _ _ => ?_, fun h => absurd rfl h⟩) (fun q hnn hnp kq qn q48 hCq eq => ⟨(fun h => by cases h), fun _ => ?_⟩)
      · rw [Int.toNat_natCast] at hor eq
        rw [htkz] at hor eq
        rw [hdpz] at eq
        have hT1 : ∀ X, XoV X z → ∀ (tr2 : TrL) (o : Sp.Out), RdT X rd n' pre post' true tr2 o → RdT X rd 31 [] (clC v c) false (tr1 ++ tr2) o := fun X hX tr2 o h => N4 X hX tr2 o (by
          rw [if_neg (fun q => nt (k1.mpr q)), if_neg (by rw [hns]; decide)]
          by_cases cn : oc z a = Ob.nil
          · rw [if_pos cn]; exact h
          · rw [if_neg cn, if_neg (fun h => hno ⟨h, cn⟩), if_pos (Ob.has_iff.mpr (hor.resolve_left cn))]; exact h)
        refine ⟨rfl, n', pre, post', true, by omega, ⟨(fun h => by cases h), (fun h => by cases h)⟩, by omega, by omega, hn, gvz.tr (kq.1.mono f80_P f8C_P), otz.tr (kq.ot (fun j hj => hj)), ⟨by rw [qn]; exact z14, by rw [qn]; exact z15, by rw [qn]; exact z32⟩, hCq, eq, by rw [q48]; exact z48, hPn kq qn ?_, trN q pre post' true (kq.1.mono f80_P f8C_P) (by rw [qn]) (by rw [qn]) (kq.1.2.2.2 52 (by decide)) hT1⟩
        by_cases cn : oc z a = Ob.nil
        · rw [if_pos cn] at hPz; exact hPz
        · rw [if_neg cn, if_neg (fun h => hno ⟨h, cn⟩), if_pos (Ob.has_iff.mpr (hor.resolve_left cn))] at hPz
          exact hPz
      · rw [Int.toNat_natCast] at hnp eq
        rw [htkz] at hnp eq
        rw [hdpz] at eq
        unfold pv_4_makeRound_237
        intro _ _
        have hT1 : ∀ X, XoV X z → ∀ (tr2 : TrL) (o : Sp.Out), RdT X rd n' (pre ++ [oc z a]) (post'.filter (fun y => decide (y ≠ oc z a))) true tr2 o → RdT X rd 31 [] (clC v c) false (tr1 ++ tr2) o := fun X hX tr2 o h => N4 X hX tr2 o (by
          rw [if_neg (fun q => nt (k1.mpr q)), if_neg (by rw [hns]; decide), if_neg hnn, if_neg (fun h => hno ⟨h, hnn⟩), if_neg (fun h => hnp (Ob.has_iff.mp h))]
          exact h)
        have hfl := List.length_filter_le (fun y => decide (y ≠ oc z a)) post'
        refine ⟨rfl, n', pre ++ [oc z a], post'.filter (fun y => decide (y ≠ oc z a)), true, by rw [List.length_append]; show _ = ((pre.length + 1 : Nat) : Int); omega, ⟨(fun h => by cases h), (fun h => by cases h)⟩, by omega, by omega, by omega, gvz.tr (kq.1.mono f80_P f8C_P), otz.tr (kq.ot (fun j hj => hj)), ⟨by rw [qn]; exact z14, by rw [qn]; exact z15, by rw [qn]; exact z32⟩, hCq, by rw [eq, List.append_assoc]; rfl, by rw [q48]; exact z48, hPn kq qn ?_, trN q _ _ true (kq.1.mono f80_P f8C_P) (by rw [qn]) (by rw [qn]) (kq.1.2.2.2 52 (by decide)) hT1⟩
        rw [if_neg hnn, if_neg (fun h => hno ⟨h, hnn⟩), if_neg (fun h => hnp (Ob.has_iff.mp h))] at hPz
        exact hPz
    have diff : ¬ (oc z a = x ∧ oc z a ≠ Ob.nil) → pv_4_makeRound_202 (fun x1 x2 x3 x4 y => x1 = c ∧ ∃ (n : Nat) (pre post : List Ob) (ch : Bool), x3 = (pre.length : Int) ∧ bq x2 ch ∧ 0 ≤ x4 ∧ x4 + (post.length : Int) ≤ 30 ∧ post.length ≤ n ∧ CG f8Pn f8Pr v y ∧ OtC (fun j => j ≠ c) v y ∧ (y.1 14 = wc ∧ y.1 15 = lf ∧ y.1 32 = 0) ∧ ClW y E c ∧ clC y c = pre ++ post ∧ y.2.1 48 c = (rd : Int) + 1 ∧ PdK_d B 0 f8Pn f8Pr u0 y R (Sp.bd (Sp.roundGo E rd n pre post ch) K) ∧ TrI E rd c v y n pre post ch) Q c x2 (pre.length : Int) x4 a z := by
      intro hno
      unfold pv_4_makeRound_202 pv_4_makeRound_203
      exact ⟨fun _ => chg hno, fun _ => ⟨fun q => absurd rfl q, fun _ => chg hno⟩⟩
    unfold pv_4_makeRound_186
    refine ⟨fun q => diff (fun h => q (isame.mp h.1)), fun q => ⟨fun q2 => diff (fun h => h.2 (k0'.mp q2)), fun q2 => ?_⟩⟩
    have hsx := isame.mpr (Decidable.not_not.mp q)
    have hnn : oc z a ≠ Ob.nil := fun h => q2 (k0'.mpr h)
    rw [if_neg hnn, if_pos hsx] at hPz
    have hT1 : ∀ X, XoV X z → ∀ (tr2 : TrL) (o : Sp.Out), RdT X rd n' (pre ++ [x]) post' ch tr2 o → RdT X rd 31 [] (clC v c) false (tr1 ++ tr2) o := fun X hX tr2 o h => N4 X hX tr2 o (by
      rw [if_neg (fun q => nt (k1.mpr q)), if_neg (by rw [hns]; decide), if_neg hnn, if_pos hsx]
      exact h)
    have more : ∀ x2' : Int, bq x2' ch → pv_4_makeRound_237 (fun x1 x2 x3 x4 y => x1 = c ∧ ∃ (n : Nat) (pre post : List Ob) (ch : Bool), x3 = (pre.length : Int) ∧ bq x2 ch ∧ 0 ≤ x4 ∧ x4 + (post.length : Int) ≤ 30 ∧ post.length ≤ n ∧ CG f8Pn f8Pr v y ∧ OtC (fun j => j ≠ c) v y ∧ (y.1 14 = wc ∧ y.1 15 = lf ∧ y.1 32 = 0) ∧ ClW y E c ∧ clC y c = pre ++ post ∧ y.2.1 48 c = (rd : Int) + 1 ∧ PdK_d B 0 f8Pn f8Pr u0 y R (Sp.bd (Sp.roundGo E rd n pre post ch) K) ∧ TrI E rd c v y n pre post ch) Q c x2' x4 (pre.length : Int) z := by
      intro x2' hx2
      unfold pv_4_makeRound_237
      intro _ _
      exact ⟨rfl, n', pre ++ [x], post', ch, by rw [List.length_append]; show _ = ((pre.length + 1 : Nat) : Int); omega, hx2, by omega, by omega, hn, gvz, otz, ⟨z14, z15, z32⟩, hCz, by rw [elz, List.append_assoc]; rfl, z48, hPz, trN z _ _ ch (CG.rf hTz) rfl rfl rfl hT1⟩
    unfold pv_4_makeRound_203 pv_4_makeRound_214 pv_4_makeRound_219
    refine ⟨fun q3 => ⟨fun _ => more 1 ⟨(fun h => by cases h), fun h => by rw [hch.t q3] at h; cases h⟩, fun h => absurd (by decide) h⟩, fun q3 => ⟨fun _ => ⟨fun _ => more 0 ⟨fun _ => hch.f (Decidable.not_not.mp q3), fun _ => rfl⟩, fun h => absurd (by decide) h⟩, fun h => absurd (by decide) h⟩⟩
  refine pc_isCallK 3 hTz na.1 (by decide) (by decide) (o := Ob.ifS) rfl (fun r1 hr1 => ⟨fun q => spl (by unfold Sp.splits; rw [hr1.t q]; rfl), fun q => ?_⟩)
  have h3 := hr1.f (Decidable.not_not.mp q)
  refine pc_isCallK 16 hTz na.1 (by decide) (by decide) (o := Ob.not) rfl (fun r2 hr2 => ⟨fun q2 => nospl (by unfold Sp.splits; rw [h3, hr2.f q2]; rfl), fun q2 => ?_⟩)
  have h16' := hr2.t q2
  refine pc_item hTz na.1 (by decide) (fun i vi ei => pc_isCallK 3 hTz vi (by decide) (by decide) (o := Ob.ifS) rfl (fun r3 hr3 => ⟨fun q3 => nospl ?_, fun q3 => spl ?_⟩))
  · have := hr3.f q3
    rw [ei] at this
    unfold Sp.splits
    rw [h3, h16']
    exact this
  · have := hr3.t q3
    rw [ei] at this
    unfold Sp.splits
    rw [h3, h16']
    exact this
