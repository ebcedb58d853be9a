-- deps: 749, NtG (zntg)
/-! proving, and what it notes: what comes out without STEPS; traces -/
def Vl [DecidableEq Ob] {α : Type} (m : Sp.M α) (x : α) : Prop := ∃ n : Nat, ∀ s, m s = .ok x (s.1, s.2 + n)
theorem Vl.ret [DecidableEq Ob] {α : Type} (x : α) : Vl (Sp.ret x) x := ⟨0, fun s => rfl⟩
theorem Vl.det [DecidableEq Ob] {α : Type} {m : Sp.M α} {x y : α} (h : Vl m x) (g : Vl m y) : x = y := by
  obtain ⟨n, h⟩ := h
  obtain ⟨k, g⟩ := g
  have q := (h (0, 0)).symm.trans (g (0, 0))
  injection q
theorem Vl.bd [DecidableEq Ob] {α β : Type} {m : Sp.M α} {K : α → Sp.M β} {x : α} {y : β} (h : Vl m x) (g : Vl (K x) y) : Vl (Sp.bd m K) y := by
  obtain ⟨n, h⟩ := h
  obtain ⟨k, g⟩ := g
  refine ⟨n + k, fun s => ?_⟩
  rw [bind_ok (h s), g]
  show EStateM.Result.ok y (s.1, s.2 + n + k) = _
  rw [Nat.add_assoc]
theorem bd_inv [DecidableEq Ob] {α β : Type} {m : Sp.M α} {K : α → Sp.M β} {s s' : Sp.Wk} {y : β} (h : Sp.bd m K s = .ok y s') : ∃ x s1, m s = .ok x s1 ∧ K x s1 = .ok y s' := by
  have key : ∀ r, m s = r → ∃ x s1, r = .ok x s1 ∧ K x s1 = .ok y s' := by
    intro r e
    cases r with
    | ok x s1 =>
      rw [bind_ok e] at h
      exact ⟨x, s1, rfl, h⟩
    | error x s1 =>
      rw [bind_err e] at h
      cases h
  exact key _ rfl
theorem Dt.vl [DecidableEq Ob] {α : Type} {m : Sp.M α} (h : Dt m) {x : α} {s s' : Sp.Wk} (e : m s = .ok x s') : Vl m x := by
  rcases h with ⟨y, n, _, h⟩ | ⟨n, _, h⟩
  · have q := (h s).symm.trans e
    injection q with a b
    rw [← a]
    exact ⟨n, h⟩
  · have q := (h s).symm.trans e
    cases q
theorem vl_bounded [DecidableEq Ob] {l x : List Ob} {s s' : Sp.Wk} (e : Sp.bounded l s = .ok x s') : Vl (Sp.bounded l) x := by
  rcases dt_bounded l with ⟨_, h⟩ | ⟨_, h⟩
  · have q := (h s).symm.trans e
    injection q with a b
    rw [← a]
    exact ⟨0, fun s => h s⟩
  · have q := (h s).symm.trans e
    cases q
theorem vl_nots [DecidableEq Ob] : ∀ (l : List Ob) {x : List Ob} {s s' : Sp.Wk}, Sp.nots l s = .ok x s' → Vl (Sp.nots l) x
  | [], x, s, s', e => by
    have e : (EStateM.Result.ok [] s : EStateM.Result Unit Sp.Wk (List Ob)) = .ok x s' := e
    injection e with a b
    rw [← a]
    exact Vl.ret []
  | a :: l, x, s, s', e => by
    have e : Sp.bd (Sp.mkNot a) (fun y => Sp.bd (Sp.pay 1) fun _ => Sp.bd (Sp.nots l) fun xs => Sp.ret (y :: xs)) s = .ok x s' := e
    obtain ⟨y, s1, e1, e⟩ := bd_inv e
    obtain ⟨z, s2, e2, e⟩ := bd_inv e
    obtain ⟨xs, s3, e3, e⟩ := bd_inv e
    have e : (EStateM.Result.ok (y :: xs) s3 : EStateM.Result Unit Sp.Wk (List Ob)) = .ok x s' := e
    injection e with q _
    rw [← q]
    have h2 : Vl (Sp.bd (Sp.nots l) fun xs => Sp.ret (y :: xs)) (y :: xs) := Vl.bd (vl_nots l e3) (Vl.ret _)
    have h1 : Vl (Sp.bd (Sp.pay 1) fun _ => Sp.bd (Sp.nots l) fun xs => Sp.ret (y :: xs)) (y :: xs) := Vl.bd (x := ()) ⟨1, fun s => rfl⟩ h2
    exact Vl.bd (K := fun y => Sp.bd (Sp.pay 1) fun _ => Sp.bd (Sp.nots l) fun xs => Sp.ret (y :: xs)) ((dt_not a).vl e1) h1
theorem vl_split [DecidableEq Ob] {pre post : List Ob} {v : Ob} {rd : Nat} {o : Sp.Out} {s s' : Sp.Wk} (e : Sp.splitC pre post v rd s = .ok o s') : Vl (Sp.splitC pre post v rd) o := by
  unfold Sp.splitC at e ⊢
  obtain ⟨b, s1, e1, e⟩ := bd_inv e
  obtain ⟨c, s2, e2, e⟩ := bd_inv e
  obtain ⟨a, s3, e3, e⟩ := bd_inv e
  obtain ⟨x, s4, e4, e⟩ := bd_inv e
  obtain ⟨y, s5, e5, e⟩ := bd_inv e
  have e : (EStateM.Result.ok (some (.inl ((x, rd + 1), (y, rd + 1)))) s5 : EStateM.Result Unit Sp.Wk Sp.Out) = .ok o s' := e
  injection e with q _
  rw [← q]
  have dn : ∀ (p : Bool) (o : Ob), Dt (if p = true then Sp.mkNot o else Sp.ret o) := fun p o => by
    cases p
    · exact dt_ret o
    · exact dt_not o
  exact Vl.bd ((dn _ _).vl e1) (Vl.bd ((dn _ _).vl e2) (Vl.bd ((dt_not _).vl e3) (Vl.bd (vl_bounded e4) (Vl.bd (vl_bounded e5) (Vl.ret _)))))
abbrev TrL := List (List Ob × Ob × Ob)
/-- all that is there is in X -/
def XoV [DecidableEq Ob] (X : Ob → Prop) (y : iST) : Prop := ∀ o, ExT y o → X o
theorem XoV.dn [DecidableEq Ob] {n r : Nat → Bool} {X : Ob → Prop} {y z : iST} (h : XoV X z) (hT : CT y) (g : CG n r y z) : XoV X y := fun o ho => h o (ho.up hT g)
/-- the literals of the clauses that a split makes are in X -/
def OuX [DecidableEq Ob] (X : Ob → Prop) (o : Sp.Out) : Prop := match o with | some (.inl ab) => (∀ x, x ∈ ab.1.1 → X x) ∧ ∀ x, x ∈ ab.2.1 → X x | _ => True
/-- a ROUND by what came out of its literals -/
def RdT [DecidableEq Ob] (X : Ob → Prop) (rd : Nat) : Nat → List Ob → List Ob → Bool → TrL → Sp.Out → Prop
  | _, pre, [], ch, tr, o => tr = [] ∧ (ch = true → Sp.szL pre ≤ 400) ∧ o = some (.inr (if ch then .inr (pre, rd + 1) else .inl (pre, rd + 1)))
  | 0, _, _ :: _, _, _, _ => False
  | n + 1, pre, x :: post, ch, tr, o => ∃ ctx v tr', tr = (ctx, x, v) :: tr' ∧ Vl (Sp.nots (pre ++ post)) ctx ∧
      (if v = Ob.t then tr' = [] ∧ o = none
       else if Sp.splits v then tr' = [] ∧ Vl (Sp.splitC pre post v rd) o ∧ OuX X o
       else if v = Ob.nil then RdT X rd n pre post true tr' o
       else if v = x then RdT X rd n (pre ++ [x]) post ch tr' o
       else if Ob.has pre v then RdT X rd n pre post true tr' o
       else RdT X rd n (pre ++ [v]) (post.filter (· ≠ v)) true tr' o)
theorem RdT_nil [DecidableEq Ob] {X : Ob → Prop} {rd n : Nat} {pre : List Ob} {ch : Bool} {tr : TrL} {o : Sp.Out} : RdT X rd n pre [] ch tr o = (tr = [] ∧ (ch = true → Sp.szL pre ≤ 400) ∧ o = some (.inr (if ch then .inr (pre, rd + 1) else .inl (pre, rd + 1)))) := by
  cases n <;> rfl
/-- what comes of a ROUND waits first; nothing is LEFT -/
def PvM [DecidableEq Ob] (P : List Sp.Cla → Prop) (ws : List Sp.Cla) (o : Sp.Out) : Prop :=
  match o with
  | none => P ws
  | some (.inl ab) => P (ab.1 :: ab.2 :: ws)
  | some (.inr (.inl _)) => False
  | some (.inr (.inr d)) => P (d :: ws)
/-- proving by what came out: nothing is LEFT -/
def PvT [DecidableEq Ob] (X : Ob → Prop) : Nat → List Sp.Cla → TrL → Prop
  | _, [], tr => tr = []
  | 0, _ :: _, _ => False
  | n + 1, c :: ws, tr => if Sp.plainC c.1 = true then PvT X n ws tr else c.2 ≠ 6 ∧ ∃ (tr1 tr2 : TrL) (o : Sp.Out), tr = tr1 ++ tr2 ∧ RdT X c.2 31 [] c.1 false tr1 o ∧ PvM (fun l => PvT X n l tr2) ws o
/-- the notes from k to k' -/
def NtL [DecidableEq Ob] (E : Sp.Env) (v : iST) : Int → TrL → Int → Prop
  | k, [], k' => k = k'
  | k, e :: l, k' => (0 ≤ k ∧ k < v.2.1 52 (5 * k + 4) ∧ v.2.1 52 (5 * k + 4) ≤ k') ∧ (VN v (v.2.1 52 (5 * k + 0)) ∧ oc v (v.2.1 52 (5 * k + 0)) = e.2.1) ∧ v.2.1 52 (5 * k + 1) = 1 ∧ CxC v E (v.2.1 52 (5 * k + 2)) e.1 ∧ (NdC v E (v.2.1 52 (5 * k + 3)) ∧ oc v (v.2.1 52 (5 * k + 3)) = e.2.2) ∧ NtL E v (v.2.1 52 (5 * k + 4)) l k'
theorem NtL.le [DecidableEq Ob] {E : Sp.Env} {v : iST} : ∀ (l : TrL) (k k' : Int), NtL E v k l k' → k ≤ k'
  | [], k, k', h => Int.le_of_eq h
  | e :: l, k, k', h => by
    have h1 := h.1
    omega
theorem NtL.keep [DecidableEq Ob] {n r : Nat → Bool} {u v : iST} {E : Sp.Env} (hT : CT u) (g : CG n r u v) : ∀ (l : TrL) (k k' : Int), NtL E u k l k' → (∀ i, i < 5 * k' → v.2.1 52 i = u.2.1 52 i) → NtL E v k l k'
  | [], k, k', h, _ => h
  | e :: l, k, k', h, q => by
    obtain ⟨⟨h0, h1, h2⟩, ⟨h3, h4⟩, h5, h6, ⟨h7, h8⟩, h9⟩ := h
    have q0 := q (5 * k + 0) (by omega)
    have q1 := q (5 * k + 1) (by omega)
    have q2 := q (5 * k + 2) (by omega)
    have q3 := q (5 * k + 3) (by omega)
    have q4 := q (5 * k + 4) (by omega)
    refine ⟨⟨h0, by rw [q4]; exact h1, by rw [q4]; exact h2⟩, ⟨by rw [q0]; exact h3.up g, by rw [q0, g.oc hT h3.1 h3.2]; exact h4⟩, by rw [q1]; exact h5, by rw [q2]; exact h6.up hT g, ⟨by rw [q3]; exact (h7.up hT g).1, by rw [q3, (h7.up hT g).2]; exact h8⟩, ?_⟩
    rw [q4]
    exact NtL.keep hT g l _ k' h9 q
theorem NtL.app [DecidableEq Ob] {v : iST} {E : Sp.Env} {k1 k2 : Int} {l2 : TrL} (hl : k1 ≤ k2) (g : NtL E v k1 l2 k2) : ∀ (l : TrL) (k : Int), NtL E v k l k1 → NtL E v k (l ++ l2) k2
  | [], k, h => by
    have h : k = k1 := h
    rw [h]
    exact g
  | e :: l, k, h => by
    obtain ⟨⟨h0, h1, h2⟩, h3, h4, h5, h6, h7⟩ := h
    exact ⟨⟨h0, h1, by omega⟩, h3, h4, h5, h6, NtL.app hl g l _ h7⟩
/-- the notes of a ROUND that is under way -/
def TrI [DecidableEq Ob] (E : Sp.Env) (rd : Nat) (c : Int) (v y : iST) (n : Nat) (pre post : List Ob) (ch : Bool) : Prop := NtK v y ∧ (y.1 26 ≤ y.1 31 ∧ NtG E y) ∧ ∃ tr1, NtL E y (v.1 26) tr1 (y.1 26) ∧ ∀ X, XoV X y → ∀ tr2 o, RdT X rd n pre post ch tr2 o → RdT X rd 31 [] (clC v c) false (tr1 ++ tr2) o
theorem TrI.keep [DecidableEq Ob] {m r : Nat → Bool} {E : Sp.Env} {rd : Nat} {c : Int} {v y z : iST} {n : Nat} {pre post : List Ob} {ch : Bool} (h : TrI E rd c v y n pre post ch) (hT : CT y) (g : CG m r y z) (e26 : z.1 26 = y.1 26) (e31 : z.1 31 = y.1 31) (e52 : z.2.1 52 = y.2.1 52) : TrI E rd c v z n pre post ch := by
  obtain ⟨h1, h2, tr1, h3, h4⟩ := h
  refine ⟨h1.tr (NtK.of e26 (Int.le_of_eq e31.symm) e52), ⟨by omega, h2.2.keep hT g e26 (fun i _ => by rw [e52])⟩, tr1, ?_, fun X hX => h4 X (hX.dn hT g)⟩
  rw [e26]
  exact NtL.keep hT g tr1 _ _ h3 (fun i _ => by rw [e52])
/-- a literal came out as a, and is noted -/
theorem TrI.note [DecidableEq Ob] {m r : Nat → Bool} {E : Sp.Env} {rd : Nat} {c x row a : Int} {v y z : iST} {n : Nat} {pre post : List Ob} {ch : Bool} {Y : Ob} {ctx : List Ob} (h : TrI E rd c v y (n + 1) pre (Y :: post) ch) (h0 : 0 ≤ v.1 26) (hT : CT y) (g : CG m r y z) (hk : NtK y z) (ho : NtO x 1 row (y.1 26) a z) (vx : VN z x) (ex : oc z x = Y) (cx : CxC z E row ctx) (na : NdC z E a) (hv : Vl (Sp.nots (pre ++ post)) ctx) (hG : NtG E z) :
    NtK v z ∧ (z.1 26 ≤ z.1 31 ∧ NtG E z) ∧ ∃ tr1, NtL E z (v.1 26) tr1 (z.1 26) ∧ ∀ X, XoV X z → ∀ (tr2 : TrL) (o : Sp.Out), (if oc z a = Ob.t then tr2 = [] ∧ o = none
       else if Sp.splits (oc z a) then tr2 = [] ∧ Vl (Sp.splitC pre post (oc z a) rd) o ∧ OuX X o
       else if oc z a = Ob.nil then RdT X rd n pre post true tr2 o
       else if oc z a = Y then RdT X rd n (pre ++ [Y]) post ch tr2 o
       else if Ob.has pre (oc z a) then RdT X rd n pre post true tr2 o
       else RdT X rd n (pre ++ [oc z a]) (post.filter (· ≠ oc z a)) true tr2 o) → RdT X rd 31 [] (clC v c) false (tr1 ++ tr2) o := by
  obtain ⟨h1, h2, tr1, h3, h4⟩ := h
  obtain ⟨o1, o2, o3, o4, o5, o6, o7⟩ := ho
  have hle := NtL.le tr1 _ _ h3
  refine ⟨h1.tr hk, ⟨o2, hG⟩, tr1 ++ [(ctx, Y, oc z a)], ?_, fun X hX tr2 o hr => ?_⟩
  · refine NtL.app (k1 := y.1 26) (by omega) ?_ tr1 _ (NtL.keep hT g tr1 _ _ h3 hk.2.2)
    refine ⟨⟨by omega, by rw [o7]; exact o1, by rw [o7]; exact Int.le_refl _⟩, ⟨by rw [o3]; exact vx, by rw [o3]; exact ex⟩, o4, by rw [o5]; exact cx, ⟨by rw [o6]; exact na, by rw [o6]⟩, o7⟩
  · rw [List.append_assoc]
    exact h4 X (hX.dn hT g) _ o ⟨ctx, oc z a, tr2, rfl, hv, hr⟩
/-- the notes of a ROUND that is over -/
def TrO [DecidableEq Ob] (E : Sp.Env) (rd : Nat) (c : Int) (v w : iST) (o : Sp.Out) : Prop := NtK v w ∧ (w.1 26 ≤ w.1 31 ∧ NtG E w) ∧ ∃ tr, NtL E w (v.1 26) tr (w.1 26) ∧ ∀ X, XoV X w → RdT X rd 31 [] (clC v c) false tr o
theorem TrO.keep [DecidableEq Ob] {m r : Nat → Bool} {E : Sp.Env} {rd : Nat} {c : Int} {v y z : iST} {o : Sp.Out} (h : TrO E rd c v y o) (hT : CT y) (g : CG m r y z) (e26 : z.1 26 = y.1 26) (e31 : z.1 31 = y.1 31) (e52 : z.2.1 52 = y.2.1 52) : TrO E rd c v z o := by
  obtain ⟨h1, h2, tr1, h3, h4⟩ := h
  refine ⟨h1.tr (NtK.of e26 (Int.le_of_eq e31.symm) e52), ⟨by omega, h2.2.keep hT g e26 (fun i _ => by rw [e52])⟩, tr1, ?_, fun X hX => h4 X (hX.dn hT g)⟩
  rw [e26]
  exact NtL.keep hT g tr1 _ _ h3 (fun i _ => by rw [e52])
theorem bd_rtS [DecidableEq Ob] {α : Type} (m : Sp.M α) (s : Sp.Wk) : Sp.bd m Sp.ret s = m s := by
  unfold Sp.bd
  cases m s <;> rfl
theorem fit_cut [DecidableEq Ob] {α β : Type} {B : Int} {R : EStateM.Result Unit Sp.Wk β} {m : Sp.M α} {K : α → Sp.M β} {s : Sp.Wk} (fit : Fit B R) (e : R = Sp.bd m K s) (hK : ∀ a, Mono (K a)) : Fit B (m s) := by
  unfold Fit at fit ⊢
  rw [e] at fit
  have key : ∀ r, m s = r → cntR r ≤ cntR (Sp.bd m K s) := by
    intro r er
    cases r with
    | ok x s1 =>
      rw [bind_ok er]
      exact hK x s1
    | error x s1 =>
      rw [bind_err er]
      exact Nat.le_refl _
  have := key _ rfl
  omega
theorem pc_rowOfOthersV [DecidableEq Ob] {α : Type} {δ : Nat} {c B : Int} {p : Nat} {n r : Nat → Bool} {Q : Int → iST → Prop} {u0 v : iST} {E : Sp.Env} {R : EStateM.Result Unit Sp.Wk α} {K : List Ob → Sp.M α} (hP : PdK_d B δ n r u0 v R (Sp.bd (Sp.nots ((clC v c).take p ++ (clC v c).drop (p + 1))) K)) (hn : ∀ k, n k = false → f8B k = false) (hr : ∀ k, r k = false → f8W k = false) (fit : Fit B R) (hK : ∀ a, Mono (K a)) (hC : ClW v E c) (h32 : v.1 32 = 0)
    (hq : ∀ row w ctx, CG f8B f8W v w → w.1 32 = 0 → CxC w E row ctx → PdK_d B 0 n r u0 w R (K ctx) → Vl (Sp.nots ((clC v c).take p ++ (clC v c).drop (p + 1))) ctx → Q row w) (hbad : ∀ row w, CG f8B f8W v w → w.1 32 ≠ 0 → (∃ s, Dd_d B 2000 w s ∧ R = .error () s) → Q row w) : pv_4_rowOfOthers c (p : Int) Q v := by
  obtain ⟨s, hl, eR⟩ := hP.live h32
  refine pc_rowOfOthers (α := List Ob) (δ := 0) (B := B) (n := n) (r := r) (u0 := u0) (E := E) (R := Sp.nots ((clC v c).take p ++ (clC v c).drop (p + 1)) s) (K := Sp.ret) ⟨hP.1, Or.inl ⟨s, hl, (bd_rtS _ s).symm⟩⟩ hn hr (fit_cut fit eR hK) (fun _ => Mono.ret) hC h32 (fun row w ctx gw w32 cx hPw => ?_) (fun row w gw w32 hd => ?_)
  · obtain ⟨s1, hl1, e1⟩ := hPw.live w32
    have e1 : Sp.nots ((clC v c).take p ++ (clC v c).drop (p + 1)) s = .ok ctx s1 := e1
    exact hq row w ctx gw w32 cx ⟨hPw.1, Or.inl ⟨s1, hl1, by rw [eR]; exact bind_ok e1⟩⟩ (vl_nots _ e1)
  · obtain ⟨s1, hd1, e1⟩ := hd
    exact hbad row w gw w32 ⟨s1, hd1, by rw [eR]; exact bind_err e1⟩
theorem pc_splitV [DecidableEq Ob] {α : Type} {δ : Nat} {c wc x B : Int} {p rd : Nat} {Q : iST → Prop} {u0 v : iST} {E : Sp.Env} {R : EStateM.Result Unit Sp.Wk α} {K : Sp.Out → Sp.M α} (hP : PdK_d B δ f8Pn f8Pr u0 v R (Sp.bd (Sp.splitC ((clC v c).take p) ((clC v c).drop (p + 1)) (oc v x) rd) K)) (fit : Fit (B + 16) R) (hK : ∀ a, Mono (K a)) (hC : ClW v E c) (hp : (p : Int) < v.2.1 46 c) (nx : NdC v E x) (hs : Sp.splits (oc v x) = true) (h32 : v.1 32 = 0) (hwc : v.1 14 = wc) (hcw : c + 1 = 120 + wc) (w10 : 1 ≤ wc ∧ wc < 10) (h48 : v.2.1 48 c = (rd : Int) + 1)
    (hq : ∀ w a b, OtC (fun j => j ≠ c ∧ j ≠ c + 1 ∧ j ≠ 150) v w → CG f8Pn f8Pr v w → w.1 32 = 0 → w.1 14 = wc + 1 → w.1 15 = v.1 15 → (w.1 31 = v.1 31 ∧ w.1 26 = v.1 26 ∧ w.2.1 52 = v.2.1 52) → (ClW w E (c + 1) ∧ clC w (c + 1) = a ∧ Sp.bnd a = true ∧ w.2.1 48 (c + 1) = (rd : Int) + 1) → (ClW w E c ∧ clC w c = b ∧ Sp.bnd b = true ∧ w.2.1 48 c = (rd : Int) + 1) → PdK_d B 0 f8Pn f8Pr u0 w R (K (some (.inl ((a, rd + 1), (b, rd + 1))))) → Vl (Sp.splitC ((clC v c).take p) ((clC v c).drop (p + 1)) (oc v x) rd) (some (.inl ((a, rd + 1), (b, rd + 1)))) → Q w)
    (hbad : ∀ w, CG f8Pn f8Pr v w → w.1 32 ≠ 0 → (∃ s, Dd_d B 2000 w s ∧ R = .error () s) → Q w) : pv_4_split c (p : Int) x Q v := by
  obtain ⟨s, hl, eR⟩ := hP.live h32
  refine pc_split (α := Sp.Out) (δ := 0) (B := B) (u0 := u0) (E := E) (rd := rd) (R := Sp.splitC ((clC v c).take p) ((clC v c).drop (p + 1)) (oc v x) rd s) (K := Sp.ret) ⟨hP.1, Or.inl ⟨s, hl, (bd_rtS _ s).symm⟩⟩ (fit_cut fit eR hK) (fun _ => Mono.ret) hC hp nx hs h32 hwc hcw w10 h48 (fun w a b o1 g1 q32 q14 q15 q31 hA hB hPw => ?_) (fun w gw w32 hd => ?_)
  · obtain ⟨s1, hl1, e1⟩ := hPw.live q32
    have e1 : Sp.splitC ((clC v c).take p) ((clC v c).drop (p + 1)) (oc v x) rd s = .ok (some (.inl ((a, rd + 1), (b, rd + 1)))) s1 := e1
    exact hq w a b o1 g1 q32 q14 q15 q31 hA hB ⟨hPw.1, Or.inl ⟨s1, hl1, by rw [eR]; exact bind_ok e1⟩⟩ (vl_split e1)
  · obtain ⟨s1, hd1, e1⟩ := hd
    exact hbad w gw w32 ⟨s1, hd1, by rw [eR]; exact bind_err e1⟩
/-- the notes of proving that is under way -/
def PvU [DecidableEq Ob] (E : Sp.Env) (v y : iST) (gs0 ws ls : List Sp.Cla) : Prop := NtK v y ∧ (y.1 26 ≤ y.1 31 ∧ NtG E y) ∧ (ls = [] → ∃ tr1, NtL E y (v.1 26) tr1 (y.1 26) ∧ ∀ X, XoV X y → ∀ n tr2, PvT X n ws tr2 → ∃ m, PvT X m gs0 (tr1 ++ tr2))
theorem PvU.keep [DecidableEq Ob] {m r : Nat → Bool} {E : Sp.Env} {v y z : iST} {gs0 ws ls : List Sp.Cla} (h : PvU E v y gs0 ws ls) (hT : CT y) (g : CG m r y z) (e26 : z.1 26 = y.1 26) (e31 : z.1 31 = y.1 31) (e52 : z.2.1 52 = y.2.1 52) : PvU E v z gs0 ws ls := by
  obtain ⟨h1, h2, h3⟩ := h
  refine ⟨h1.tr (NtK.of e26 (Int.le_of_eq e31.symm) e52), ⟨by omega, h2.2.keep hT g e26 (fun i _ => by rw [e52])⟩, fun hl => ?_⟩
  obtain ⟨tr1, h4, h5⟩ := h3 hl
  refine ⟨tr1, ?_, fun X hX => h5 X (hX.dn hT g)⟩
  rw [e26]
  exact NtL.keep hT g tr1 _ _ h4 (fun i _ => by rw [e52])
/-- the trace stays, what waits becomes other -/
theorem PvU.to [DecidableEq Ob] {E : Sp.Env} {v y : iST} {gs0 ws ws' ls ls' : List Sp.Cla} (h : PvU E v y gs0 ws ls) (hl : ls' = [] → ls = [] ∧ ∀ X n tr2, PvT X n ws' tr2 → PvT X (n + 1) ws tr2) : PvU E v y gs0 ws' ls' := by
  obtain ⟨h1, h2, h3⟩ := h
  refine ⟨h1, h2, fun q => ?_⟩
  obtain ⟨q1, q2⟩ := hl q
  obtain ⟨tr1, h4, h5⟩ := h3 q1
  exact ⟨tr1, h4, fun X hX n tr2 ht => h5 X hX _ _ (q2 X n tr2 ht)⟩
/-- a ROUND was made of clause c -/
theorem PvU.round [DecidableEq Ob] {m r : Nat → Bool} {E : Sp.Env} {c : Int} {v y z : iST} {d : Sp.Cla} {gs0 ws ws' ls ls' : List Sp.Cla} {o : Sp.Out} (h : PvU E v y gs0 (d :: ws) ls) (hT : CT y) (g : CG m r y z) (hc : clC y c = d.1) (hp : Sp.plainC d.1 = false) (h6 : d.2 ≠ 6) (ht : TrO E d.2 c y z o) (hl : ls' = [] → ls = []) (hws : ls' = [] → ∀ X n tr2, PvT X n ws' tr2 → PvM (fun l => PvT X n l tr2) ws o) : PvU E v z gs0 ws' ls' := by
  obtain ⟨h1, h2, h3⟩ := h
  obtain ⟨t1, t2, tr, t3, t4⟩ := ht
  refine ⟨h1.tr t1, t2, fun q => ?_⟩
  obtain ⟨tr1, h4, h5⟩ := h3 (hl q)
  refine ⟨tr1 ++ tr, NtL.app t1.1 t3 tr1 _ (NtL.keep hT g tr1 _ _ h4 t1.2.2), fun X hX n tr2 hn => ?_⟩
  rw [List.append_assoc]
  refine h5 X (hX.dn hT g) (n + 1) (tr ++ tr2) ?_
  show if Sp.plainC d.1 = true then PvT X n ws (tr ++ tr2) else _
  rw [if_neg (by rw [hp]; decide)]
  have t4 := t4 X hX
  rw [hc] at t4
  exact ⟨h6, tr, tr2, o, rfl, t4, hws q X n tr2 hn⟩

theorem OuX.mono [DecidableEq Ob] {X Y : Ob → Prop} (h : ∀ o, X o → Y o) {o : Sp.Out} (g : OuX X o) : OuX Y o := by
  cases o with
  | none => trivial
  | some o =>
    cases o with
    | inl ab => exact ⟨fun x hx => h x (g.1 x hx), fun x hx => h x (g.2 x hx)⟩
    | inr o => trivial
theorem RdT.mono [DecidableEq Ob] {X Y : Ob → Prop} (h : ∀ o, X o → Y o) {rd : Nat} {o : Sp.Out} : ∀ (n : Nat) (pre post : List Ob) (ch : Bool) (tr : TrL), RdT X rd n pre post ch tr o → RdT Y rd n pre post ch tr o
  | n, pre, [], ch, tr, g => by rw [RdT_nil] at g ⊢; exact g
  | 0, pre, x :: post, ch, tr, g => g
  | n + 1, pre, x :: post, ch, tr, g => by
    obtain ⟨ctx, v, tr', e, h1, h2⟩ := g
    refine ⟨ctx, v, tr', e, h1, ?_⟩
    split at h2
    · rename_i c
      rw [if_pos c]; exact h2
    · rename_i c
      rw [if_neg c]
      split at h2
      · rename_i c
        rw [if_pos c]; exact ⟨h2.1, h2.2.1, h2.2.2.mono h⟩
      · rename_i c
        rw [if_neg c]
        split at h2
        · rename_i c
          rw [if_pos c]; exact RdT.mono h n _ _ _ _ h2
        · rename_i c
          rw [if_neg c]
          split at h2
          · rename_i c
            rw [if_pos c]; exact RdT.mono h n _ _ _ _ h2
          · rename_i c
            rw [if_neg c]
            split at h2
            · rename_i c
              rw [if_pos c]; exact RdT.mono h n _ _ _ _ h2
            · rename_i c
              rw [if_neg c]; exact RdT.mono h n _ _ _ _ h2
theorem PvT.mono [DecidableEq Ob] {X Y : Ob → Prop} (h : ∀ o, X o → Y o) : ∀ (n : Nat) (ws : List Sp.Cla) (tr : TrL), PvT X n ws tr → PvT Y n ws tr
  | n, [], tr, g => by cases n <;> exact g
  | 0, c :: ws, tr, g => g
  | n + 1, c :: ws, tr, g => by
    have g : if Sp.plainC c.1 = true then PvT X n ws tr else c.2 ≠ 6 ∧ ∃ (tr1 tr2 : TrL) (o : Sp.Out), tr = tr1 ++ tr2 ∧ RdT X c.2 31 [] c.1 false tr1 o ∧ PvM (fun l => PvT X n l tr2) ws o := g
    show if Sp.plainC c.1 = true then PvT Y n ws tr else c.2 ≠ 6 ∧ ∃ (tr1 tr2 : TrL) (o : Sp.Out), tr = tr1 ++ tr2 ∧ RdT Y c.2 31 [] c.1 false tr1 o ∧ PvM (fun l => PvT Y n l tr2) ws o
    by_cases hp : Sp.plainC c.1 = true
    · rw [if_pos hp] at g ⊢
      exact PvT.mono h n ws tr g
    · rw [if_neg hp] at g ⊢
      obtain ⟨g1, tr1, tr2, o, g2, g3, g4⟩ := g
      refine ⟨g1, tr1, tr2, o, g2, g3.mono h, ?_⟩
      cases o with
      | none => exact PvT.mono h n ws tr2 g4
      | some o =>
        cases o with
        | inl ab => exact PvT.mono h n _ tr2 g4
        | inr o =>
          cases o with
          | inl d => exact g4
          | inr d => exact PvT.mono h n _ tr2 g4
