/-! told again: what it says is known of the text -/
def ToldX (u : iST) (x : Int) : Prop := 0 ≤ u.2.1 0 x ∧ u.2.1 0 x ≠ 2 ∧ u.2.1 0 x ≤ 16 ∧ ∃ n : Nat, IsL u (u.2.1 1 x) n ∧ (∀ i, i < n → Cst u (el u (u.2.1 1 x) i)) ∧ (u.2.1 0 x = 7 → n = 2 → numV u (cv u (el u (u.2.1 1 x) 0)) + numV u (cv u (el u (u.2.1 1 x) 1)) ≤ 4611686018427387903)
theorem cv_r {u : iST} (hT : TI u) {k : Int} (k0 : 0 ≤ k) (k1 : k < u.1 8) (hc : Cst u k) : 0 ≤ cv u k ∧ cv u k < u.1 8 := by
  unfold cv
  split
  · next hp =>
    have hq : Quo u k := by
      rcases hc with z | z | z | z
      · omega
      · have := hT.2.2.2.2.2.2.2.2.1 0 (by decide) (by decide); rw [z] at hp; omega
      · have := hT.2.2.2.2.2.2.2.2.1 1 (by decide) (by decide); rw [z] at hp; omega
      · exact z
    have p1 := hT.pair k0 k1 hp
    have p2 := hT.pair p1.2.1 (by omega) hq.2.2.1
    exact ⟨hq.2.2.1, by omega⟩
  · exact ⟨k0, k1⟩
theorem cv_ext {u v : iST} (hT : TI u) (h : Ext u v) {k : Int} (k0 : 0 ≤ k) (k1 : k < u.1 8) : cv v k = cv u k := by
  unfold cv
  have e := h.2.1 k k0 k1
  have r := hT.right_r k0 k1
  rw [e.1, e.2.1, (h.2.1 _ r.1 r.2).1]
theorem numV_ext {u v : iST} (hT : TI u) (h : Ext u v) {k : Int} (k0 : 0 ≤ k) (k1 : k < u.1 8) : numV v k = numV u k := by
  unfold numV
  have e := h.2.1 k k0 k1
  rw [e.1, e.2.1]
  split
  · next hn =>
    have hv := hT.nat k0 k1 hn
    exact h.2.2.1 _ hv.1 hv.2.1
  · rfl
theorem ToldX.ext {u v : iST} (hT : TI u) (h : Ext u v) {x : Int} (x0 : 0 ≤ x) (x1 : x < u.1 8) (hx : ToldX u x) : ToldX v x := by
  have e := h.2.1 x x0 x1
  obtain ⟨a, b, c, n, d, f, g⟩ := hx
  unfold ToldX
  rw [e.1, e.2.1]
  have cr : ∀ i, i < n → 0 ≤ el u (u.2.1 1 x) i ∧ el u (u.2.1 1 x) i < u.1 8 := fun i hi => IsL.elr hT d i hi
  refine ⟨a, b, c, n, d.ext hT h, fun i hi => by rw [el_ext h d i hi]; exact Cst_ex hT h (cr i hi).1 (cr i hi).2 (f i hi), fun h7 h2 => ?_⟩
  have n0 : 0 < n := by omega
  have n1 : 1 < n := by omega
  have r0 := cv_r hT (cr 0 n0).1 (cr 0 n0).2 (f 0 n0)
  have r1 := cv_r hT (cr 1 n1).1 (cr 1 n1).2 (f 1 n1)
  rw [el_ext h d 0 n0, el_ext h d 1 n1, cv_ext hT h (cr 0 n0).1 (cr 0 n0).2, cv_ext hT h (cr 1 n1).1 (cr 1 n1).2, numV_ext hT h r0.1 r0.2, numV_ext hT h r1.1 r1.2]
  exact g h7 h2
theorem T1.cst {u : iST} (hT : TI u) {x t : Int} (h : T1 u x t) : (Cst u x ↔ Cst u t) ∧ (Cst u x → cv u x = cv u t) := by
  have s0 := hT.2.2.2.2.2.2.2.2.1 0 (by decide) (by decide)
  have s1 := hT.2.2.2.2.2.2.2.2.1 1 (by decide) (by decide)
  have no : ∀ y, 0 ≤ u.2.1 0 y → u.2.1 0 y ≠ 2 → ¬ Cst u y := fun y y0 y2 hc => by
    rcases hc with z | z | z | z
    · omega
    · rw [z] at y0; omega
    · rw [z] at y0; omega
    · exact y2 z.2.1
  rcases h with ⟨a, b⟩ | ⟨a, b | ⟨b1, b2, b3⟩⟩ | ⟨a, b, c⟩
  · subst b; exact ⟨Iff.rfl, fun _ => rfl⟩
  · subst b; exact ⟨Iff.rfl, fun _ => rfl⟩
  · refine ⟨⟨fun _ => b3, fun _ => Or.inr (Or.inr (Or.inr a))⟩, fun _ => ?_⟩
    unfold cv
    rw [if_pos a.1, if_neg (show ¬ 0 ≤ u.2.1 0 t by omega), b1]
  · have nx := no x a b
    have nt := no t (by rw [c]; exact a) (by rw [c]; exact b)
    exact ⟨⟨fun z => absurd z nx, fun z => absurd z nt⟩, fun z => absurd z nx⟩
theorem T2.told {u : iST} (hT : TI u) {x t : Int} (h : T2 u x t) : ToldX u x ↔ ToldX u t := by
  obtain ⟨h1, h2⟩ := h
  have key : 0 ≤ u.2.1 0 x ∧ u.2.1 0 x ≠ 2 → u.2.1 0 t = u.2.1 0 x → (ToldX u x ↔ ToldX u t) := by
    intro hc hl
    obtain ⟨n, a, b, c⟩ := h2 hc
    unfold ToldX
    rw [hl]
    constructor
    · rintro ⟨q1, q2, q3, m, q4, q5, q6⟩
      have e := IsL_uniq hT q4 a
      subst e
      refine ⟨q1, q2, q3, m, b, fun i hi => ((c i hi).cst hT).1.mp (q5 i hi), fun h7 h2' => ?_⟩
      rw [← ((c 0 (by omega)).cst hT).2 (q5 0 (by omega)), ← ((c 1 (by omega)).cst hT).2 (q5 1 (by omega))]
      exact q6 h7 h2'
    · rintro ⟨q1, q2, q3, m, q4, q5, q6⟩
      have e := IsL_uniq hT q4 b
      subst e
      have q7 : ∀ i, i < m → Cst u (el u (u.2.1 1 x) i) := fun i hi => ((c i hi).cst hT).1.mpr (q5 i hi)
      refine ⟨q1, q2, q3, m, a, q7, fun h7 h2' => ?_⟩
      rw [((c 0 (by omega)).cst hT).2 (q7 0 (by omega)), ((c 1 (by omega)).cst hT).2 (q7 1 (by omega))]
      exact q6 h7 h2'
  rcases h1 with ⟨a, b⟩ | ⟨a, b | ⟨b1, b2, b3⟩⟩ | ⟨a, b, c⟩
  · subst b; exact Iff.rfl
  · subst b; exact Iff.rfl
  · constructor
    · intro z; exact absurd a.2.1 z.2.1
    · intro z; have := z.1; omega
  · exact key ⟨a, b⟩ c
theorem g_told {o : Int} {Q : Int → iST → Prop} {u : iST} (hT : TI u) (ho : TJ u o) (h8b : u.1 8 < 452000) (h6b : u.1 6 < 40000) (hq : ∀ r v, EP u v 1 1 → v.1 60 = u.1 60 → ((r = -1 ∧ ¬ ToldX u o) ∨ (0 ≤ r ∧ r < v.1 8 ∧ ToldX u o)) → Q r v) (h60 : u.1 60 ≤ u.1 59) : w_told o Q u := by
  have hr := ho.1.r
  have h8 := hT.2.1
  have rf : EP u u 1 1 := ⟨hT, ExtT.rf u, Fx.rf _ u, Int.le_refl _, fun z => z, by omega, by omega, rfl⟩
  have none : ¬ ToldX u o → Q (-1) u := fun z => hq (-1) u rf rfl (Or.inl ⟨rfl, z⟩)
  unfold w_told
  refine s_isCall hr.1 (by omega) fun r _ hrr => br_i (fun hz => none (fun z => absurd (hrr.mpr ⟨z.1, z.2.1⟩) (by omega))) fun hz => ?_
  have hc := hrr.mp hz
  obtain ⟨n, n6, har, hl, hal⟩ := ho.args hT hc
  refine bd_i hr.1 (by omega) (rd_i fun _ => br_i (fun hgt => none (fun z => by have := z.2.2.1; omega)) fun hle => ?_)
  refine s_areConstantsT hT hr.1 hr.2 hl hal fun r2 _ hr2 => br_i (fun hz2 => bd_i hr.1 (by omega) (rd_i fun _ => ?_)) (fun hz2 => none (fun z => ?_))
  · have hcst := hr2.mp hz2
    have hce : ∀ i, i < n → Cst u (el u (u.2.1 1 o) i) := fun i hi => hcst.el i hi
    refine br_i (fun hne => bd_i hr.1 (by omega) (rd_i fun _ => ?_)) fun he => ?_
    · have base : 3 ≤ u.2.1 0 o → (n = 3 ∧ u.2.1 0 o = 3) ∨ (4 ≤ u.2.1 0 o ∧ u.2.1 0 o ≤ 9 ∧ n = 2) ∨ (10 ≤ u.2.1 0 o ∧ n = 1) := fun h3 => by
        rcases (show u.2.1 0 o = 3 ∨ (4 ≤ u.2.1 0 o ∧ u.2.1 0 o ≤ 9) ∨ 10 ≤ u.2.1 0 o by omega) with e | e | e
        · exact Or.inl ⟨har.fun (Ar_base h3 (by omega) (Or.inl ⟨e, rfl⟩)), e⟩
        · exact Or.inr (Or.inl ⟨e.1, e.2, har.fun (Ar_base h3 (by omega) (Or.inr (Or.inl ⟨e.1, e.2, rfl⟩)))⟩)
        · exact Or.inr (Or.inr ⟨e, har.fun (Ar_base h3 (by omega) (Or.inr (Or.inr ⟨e, rfl⟩)))⟩)
      refine g_constantValueT hT hr.1 hr.2 n6 hl hal hcst (fun a b => by have := base (by omega); omega) (fun a b => by have := base (by omega); omega) h8b h6b fun r v hE hs hrv h7 hn7 => hq r v hE hs ?_
      by_cases e7 : u.2.1 0 o = 7
      · have en : n = 2 := by have := base (by omega); omega
        have h7' := h7 e7 en
        by_cases er : r = -1
        · refine Or.inl ⟨er, fun z => ?_⟩
          obtain ⟨_, _, _, m, q4, _, q6⟩ := z
          have := q6 e7 (by rw [IsL_uniq hT q4 hl]; exact en)
          have := h7'.mp er
          omega
        · have hr2' := hrv.resolve_left er
          refine Or.inr ⟨hr2'.1, hr2'.2, hc.1, hc.2, by omega, n, hl, hce, fun _ _ => ?_⟩
          have : ¬ (4611686018427387903 < numV u (cv u (el u (u.2.1 1 o) 0)) + numV u (cv u (el u (u.2.1 1 o) 1))) := fun z => er (h7'.mpr z)
          omega
      · have hr2' := hrv.resolve_left (hn7 e7)
        exact Or.inr ⟨hr2'.1, hr2'.2, hc.1, hc.2, by omega, n, hl, hce, fun z _ => absurd z e7⟩
    · have e3 : u.2.1 0 o = 3 := by omega
      have en : n = 3 := har.fun (Ar_base (by omega) (by omega) (Or.inl ⟨e3, rfl⟩))
      have tx : ToldX u o := ⟨hc.1, hc.2, by omega, n, hl, hce, fun z _ => by omega⟩
      have fin : ∀ i : Nat, 1 ≤ i → i ≤ 3 → w_told_60 Q o i u := fun i i1 i2 => by
        unfold w_told_60
        refine s_term hT hr.1 hr.2 (by omega) (by omega) ?_
        obtain ⟨i', rfl⟩ : ∃ i', i = i' + 1 := ⟨i - 1, by omega⟩
        rw [show ((i' + 1 : Nat) : Int).toNat = i' + 1 from by omega, el_succ]
        have er := IsL.elr hT hl i' (by omega)
        exact s_valueOf hT er.1 er.2 (hce i' (by omega)) fun r r0 r1 => hq r u rf rfl (Or.inr ⟨r0, r1, tx⟩)
      refine s_term hT hr.1 hr.2 (by decide) (by decide) ?_
      rw [show (1 : Int).toNat = 0 + 1 from rfl, el_succ]
      have er := IsL.elr hT hl 0 (by omega)
      exact s_valueOf hT er.1 er.2 (hce 0 (by omega)) fun r r0 r1 => br_i (fun _ => fin 2 (by decide) (by decide)) fun _ => fin 3 (by decide) (by decide)
  · obtain ⟨_, _, _, m, q4, q5, _⟩ := z
    have e := IsL_uniq hT q4 hl
    subst e
    have : AllE u (Cst u) (u.2.1 1 o) m := AllE_of fun i hi => q5 i hi
    exact absurd (hr2.mpr this) (by omega)
/-! how many ends a term has -/
def nEnds (u : iST) (m : Nat) : Int :=
  if u.2.1 0 (m : Int) = 3 then
    if h : (el u (m : Int) 2).toNat < m ∧ (el u (m : Int) 3).toNat < m then nEnds u (el u (m : Int) 2).toNat + nEnds u (el u (m : Int) 3).toNat else 0
  else 1
termination_by m
decreasing_by all_goals omega
def cI (u : iST) (x : Int) : Int := nEnds u x.toNat
theorem if_down {u : iST} (hT : TI u) {t : Int} (ht : TJ u t) (h3 : u.2.1 0 t = 3) : el u t 2 < t ∧ el u t 3 < t := by
  obtain ⟨n, a, b, c, d⟩ := ht.args hT ⟨by omega, by omega⟩
  have : n = 3 := b.fun (Ar_base (by omega) (by omega) (Or.inl ⟨h3, rfl⟩))
  subst this
  have hr := ht.1.r
  have p := hT.pair hr.1 hr.2 (by omega)
  obtain ⟨c0, c1, c2, c3⟩ := c
  have p1 := hT.pair c0 c1 c2
  obtain ⟨d0, d1, d2, d3⟩ := c3
  have p2 := hT.pair d0 d1 d2
  obtain ⟨e0, e1, e2, e3⟩ := d3
  have p3 := hT.pair e0 e1 e2
  refine ⟨?_, ?_⟩
  · show u.2.1 0 (u.2.1 1 (u.2.1 1 t)) < t
    omega
  · show u.2.1 0 (u.2.1 1 (u.2.1 1 (u.2.1 1 t))) < t
    omega
theorem cI_if {u : iST} (hT : TI u) {t : Int} (ht : TJ u t) (h3 : u.2.1 0 t = 3) : cI u t = cI u (el u t 2) + cI u (el u t 3) := by
  have d := if_down hT ht h3
  have hr := ht.1.r
  have r2 : 0 ≤ el u t 2 ∧ el u t 2 < u.1 8 := (TJ.el (i := 2) hT ht (by omega) (by omega) (Or.inr (Or.inl ⟨rfl, by omega⟩))).1.r
  have r3 : 0 ≤ el u t 3 ∧ el u t 3 < u.1 8 := (TJ.el (i := 3) hT ht (by omega) (by omega) (Or.inr (Or.inr ⟨rfl, h3⟩))).1.r
  unfold cI
  have et : ((t.toNat : Nat) : Int) = t := by omega
  rw [nEnds, et, if_pos h3, dif_pos (by omega)]
theorem cI_no {u : iST} {t : Int} (t0 : 0 ≤ t) (h3 : u.2.1 0 t ≠ 3) : cI u t = 1 := by
  unfold cI
  have et : ((t.toNat : Nat) : Int) = t := by omega
  rw [nEnds, et, if_neg h3]
theorem cI_ext {u v : iST} (hT : TI u) (hV : TI v) (h : ExtT u v) {x : Int} (hx : TJ u x) : cI v x = cI u x := by
  have key : ∀ (n : Nat) (x : Int), x < n → TJ u x → cI v x = cI u x := by
    intro n
    induction n with
    | zero => intro x hn hx; have := hx.1.r; omega
    | succ n ih =>
      intro x hn hx
      have hr := hx.1.r
      have e := h.1.2.1 x hr.1 hr.2
      by_cases h3 : u.2.1 0 x = 3
      · have d := if_down hT hx h3
        have j2 := TJ.el (i := 2) hT hx (by omega) (by omega) (Or.inr (Or.inl ⟨rfl, by omega⟩))
        have j3 := TJ.el (i := 3) hT hx (by omega) (by omega) (Or.inr (Or.inr ⟨rfl, h3⟩))
        have q2 : cI v (el u x 2) = cI u (el u x 2) := ih (el u x 2) (by omega) j2
        have q3 : cI v (el u x 3) = cI u (el u x 3) := ih (el u x 3) (by omega) j3
        have e2 : el v x 2 = el u x 2 := el_if hT h hx h3 1 (by decide)
        have e3 : el v x 3 = el u x 3 := el_if hT h hx h3 2 (by decide)
        rw [cI_if hT hx h3, cI_if hV (hx.ext hT h) (by rw [e.1]; exact h3), e2, e3, q2, q3]
      · rw [cI_no hr.1 h3, cI_no hr.1 (by rw [e.1]; exact h3)]
  exact key (x.toNat + 1) x (by have := hx.1.r; omega) hx
theorem Cnt.is {u v : iST} (hT : TI u) {o : Int} (h : Cnt u o v 0) : v.1 126 = cI u o := by
  have := h (cI u) (fun t ht h3 => cI_if hT ht h3) (fun t ht h3 => cI_no ht.1.r.1 h3)
  have e : sumC (cI u) (v.2.1 127) 0 = 0 := rfl
  omega
