-- deps: 556
/-! what both do: a text is read. A list that has begun: its items, its state (1: a point stood, 2: its end is there), its end; none: a quote -/
abbrev Sp.Fr := Option (List Ob × Int × Ob)
abbrev Sp.Rd := List Sp.Fr × Option Ob
def Sp.rdBeg [DecidableEq Ob] (st : Sp.Rd) : Bool := match st.1 with | [] => st.2.isNone | none :: _ => true | some f :: _ => decide (f.2.1 < 2)
def Sp.rdDel [DecidableEq Ob] (w : Option Ob) : List Sp.Fr → Ob → Sp.Rd
  | [], o => ([], some o)
  | none :: r, o => Sp.rdDel w r (.pr Ob.quote (.pr o Ob.nil))
  | some f :: r, o => if f.2.1 = 1 then (some (f.1, 2, o) :: r, w) else (some (f.1 ++ [o], f.2.1, f.2.2) :: r, w)
def Sp.ofL [DecidableEq Ob] : List Ob → Ob → Ob | [], x => x | a :: l, x => .pr a (Sp.ofL l x)
def Sp.rdClose [DecidableEq Ob] (st : Sp.Rd) : Option Sp.Rd := match st.1 with | some f :: r => if f.2.1 = 1 then none else some (Sp.rdDel st.2 r (Sp.ofL f.1 (if f.2.1 = 2 then f.2.2 else Ob.nil))) | _ => none
def Sp.rdDot [DecidableEq Ob] (st : Sp.Rd) : Option Sp.Rd := match st.1 with | some f :: r => if f.2.1 = 0 ∧ f.1.isEmpty = false then some (some (f.1, 1, f.2.2) :: r, st.2) else none | _ => none
def Sp.rdOpen [DecidableEq Ob] (q : Bool) (st : Sp.Rd) : Option Sp.Rd := if Sp.rdBeg st && decide (st.1.length < 40) then some ((if q then none else some ([], 0, Ob.nil)) :: st.1, st.2) else none
def Sp.rdMark [DecidableEq Ob] (c : Int) (st : Sp.Rd) : Option Sp.Rd := if c = 40 then Sp.rdOpen false st else if c = 39 then Sp.rdOpen true st else if c = 41 then Sp.rdClose st else if c = 46 then Sp.rdDot st else none
def Sp.isDig [DecidableEq Ob] (c : Int) : Bool := decide (48 ≤ c ∧ c ≤ 57)
def Sp.isAtm [DecidableEq Ob] (c : Int) : Bool := decide (97 ≤ c ∧ c ≤ 122) || Sp.isDig c || decide (c = 43) || decide (c = 45) || decide (c = 42) || decide (c = 47) || decide (c = 60) || decide (c = 62) || decide (c = 61) || decide (c = 63) || decide (c = 33) || decide (c = 95)
def Sp.natOf [DecidableEq Ob] : List Int → Int → Option Int
  | [], v => some v
  | c :: l, v => if v ≤ (4611686018427387903 - (c - 48)) / 10 then Sp.natOf l (10 * v + (c - 48)) else none
def Sp.atomO [DecidableEq Ob] (w : List Int) : Option Ob := if w.all Sp.isDig then (Sp.natOf w 0).map Ob.nat else if w.length ≤ 11 then some (Ob.sym w) else none
def Sp.rdGo [DecidableEq Ob] : Nat → List Int → Nat → Sp.Rd → Option Ob
  | 0, _, _, _ => none
  | _ + 1, [], _, st => st.2
  | n + 1, c :: cs, k, st =>
    if c = 59 then Sp.rdGo n (cs.dropWhile (fun c => decide (c ≠ 10))) k st
    else if c = 32 ∨ c = 10 then Sp.rdGo n cs k st
    else if Sp.isAtm c then (match Sp.atomO ((c :: cs).takeWhile Sp.isAtm) with | some v => if Sp.rdBeg st && decide (k < 1000) then Sp.rdGo n (cs.dropWhile Sp.isAtm) (k + 1) (Sp.rdDel st.2 st.1 v) else none | none => none)
    else match Sp.rdMark c st with | some st' => if k < 1000 then Sp.rdGo n cs (k + 1) st' else none | none => none
def Sp.rd [DecidableEq Ob] (t : List Int) (k : Nat) (st : Sp.Rd) : Option Ob := Sp.rdGo (t.length + 1) t k st
/-- the object of a TEXT -/
def Sp.read [DecidableEq Ob] (t : List Int) : Option Ob := Sp.rd t 0 ([], none)
theorem dropWhile_len [DecidableEq Ob] (p : Int → Bool) : ∀ l : List Int, (l.dropWhile p).length ≤ l.length
  | [] => Nat.le_refl _
  | a :: l => by
    have := dropWhile_len p l
    rw [List.dropWhile_cons]
    split
    · rw [List.length_cons]; omega
    · exact Nat.le_refl _
theorem rdGo_cons [DecidableEq Ob] (n : Nat) (c : Int) (cs : List Int) (k : Nat) (st : Sp.Rd) : Sp.rdGo (n + 1) (c :: cs) k st = (if c = 59 then Sp.rdGo n (cs.dropWhile (fun c => decide (c ≠ 10))) k st
    else if c = 32 ∨ c = 10 then Sp.rdGo n cs k st
    else if Sp.isAtm c then (match Sp.atomO ((c :: cs).takeWhile Sp.isAtm) with | some v => if Sp.rdBeg st && decide (k < 1000) then Sp.rdGo n (cs.dropWhile Sp.isAtm) (k + 1) (Sp.rdDel st.2 st.1 v) else none | none => none)
    else match Sp.rdMark c st with | some st' => if k < 1000 then Sp.rdGo n cs (k + 1) st' else none | none => none) := rfl
theorem rdGo_fuel [DecidableEq Ob] : ∀ (n m : Nat) (t : List Int) (k : Nat) (st : Sp.Rd), t.length < n → t.length < m → Sp.rdGo n t k st = Sp.rdGo m t k st
  | 0, _, _, _, _, h, _ => absurd h (Nat.not_lt_zero _)
  | _ + 1, 0, _, _, _, _, h => absurd h (Nat.not_lt_zero _)
  | _ + 1, _ + 1, [], _, _, _, _ => rfl
  | n + 1, m + 1, c :: cs, k, st, h1, h2 => by
    rw [List.length_cons] at h1 h2
    have ih : ∀ (t : List Int) (k : Nat) (st : Sp.Rd), t.length ≤ cs.length → Sp.rdGo n t k st = Sp.rdGo m t k st := fun t k st h => rdGo_fuel n m t k st (by omega) (by omega)
    rw [rdGo_cons, rdGo_cons, ih _ k st (dropWhile_len _ cs), ih cs k st (Nat.le_refl _)]
    by_cases c1 : c = 59
    · rw [if_pos c1, if_pos c1]
    rw [if_neg c1, if_neg c1]
    by_cases c2 : c = 32 ∨ c = 10
    · rw [if_pos c2, if_pos c2]
    rw [if_neg c2, if_neg c2]
    by_cases c3 : Sp.isAtm c = true
    · rw [if_pos c3, if_pos c3]
      cases Sp.atomO ((c :: cs).takeWhile Sp.isAtm) with
      | none => rfl
      | some v =>
        show (if _ then _ else none) = (if _ then _ else none)
        rw [ih _ (k + 1) (Sp.rdDel st.2 st.1 v) (dropWhile_len _ cs)]
    rw [if_neg c3, if_neg c3]
    cases Sp.rdMark c st with
    | none => rfl
    | some st' =>
      show (if _ then _ else none) = (if _ then _ else none)
      rw [ih cs (k + 1) st' (Nat.le_refl _)]
theorem rd_nil [DecidableEq Ob] (k : Nat) (st : Sp.Rd) : Sp.rd [] k st = st.2 := rfl
theorem rd_com [DecidableEq Ob] (cs : List Int) (k : Nat) (st : Sp.Rd) : Sp.rd (59 :: cs) k st = Sp.rd (cs.dropWhile (fun c => decide (c ≠ 10))) k st := by
  unfold Sp.rd
  rw [List.length_cons, rdGo_cons, if_pos rfl]
  have := dropWhile_len (fun c => decide (c ≠ 10)) cs
  exact rdGo_fuel _ _ _ _ _ (by omega) (by omega)
theorem rd_sp [DecidableEq Ob] {c : Int} (h : c = 32 ∨ c = 10) (cs : List Int) (k : Nat) (st : Sp.Rd) : Sp.rd (c :: cs) k st = Sp.rd cs k st := by
  unfold Sp.rd
  rw [List.length_cons, rdGo_cons, if_neg (by omega), if_pos h]
theorem rd_atm [DecidableEq Ob] {c : Int} (h : Sp.isAtm c = true) (n1 : c ≠ 59) (n2 : ¬ (c = 32 ∨ c = 10)) (cs : List Int) (k : Nat) (st : Sp.Rd) : Sp.rd (c :: cs) k st = (match Sp.atomO ((c :: cs).takeWhile Sp.isAtm) with | some v => if Sp.rdBeg st && decide (k < 1000) then Sp.rd (cs.dropWhile Sp.isAtm) (k + 1) (Sp.rdDel st.2 st.1 v) else none | none => none) := by
  unfold Sp.rd
  rw [List.length_cons, rdGo_cons, if_neg n1, if_neg n2, if_pos h]
  have := dropWhile_len Sp.isAtm cs
  cases Sp.atomO ((c :: cs).takeWhile Sp.isAtm) with
  | none => rfl
  | some v =>
    show (if _ then _ else none) = (if _ then _ else none)
    rw [rdGo_fuel _ ((cs.dropWhile Sp.isAtm).length + 1) _ (k + 1) (Sp.rdDel st.2 st.1 v) (by omega) (by omega)]
theorem rd_mrk [DecidableEq Ob] {c : Int} (h : Sp.isAtm c = false) (n1 : c ≠ 59) (n2 : ¬ (c = 32 ∨ c = 10)) (cs : List Int) (k : Nat) (st : Sp.Rd) : Sp.rd (c :: cs) k st = (match Sp.rdMark c st with | some st' => if k < 1000 then Sp.rd cs (k + 1) st' else none | none => none) := by
  unfold Sp.rd
  rw [List.length_cons, rdGo_cons, if_neg n1, if_neg n2, if_neg (by rw [h]; decide)]
/-! the reference: the text, from a place on -/
def tx [DecidableEq Ob] (u : iST) (p : Int) : List Int := (List.range (u.1 14 - p).toNat).map (fun i : Nat => u.2.1 13 (p + (i : Int)))
theorem tx_nil [DecidableEq Ob] {u : iST} {p : Int} (h : u.1 14 ≤ p) : tx u p = [] := by
  unfold tx
  rw [show (u.1 14 - p).toNat = 0 by omega]
  rfl
theorem tx_cons [DecidableEq Ob] {u : iST} {p : Int} (h : p < u.1 14) : tx u p = u.2.1 13 p :: tx u (p + 1) := by
  unfold tx
  rw [show (u.1 14 - p).toNat = (u.1 14 - (p + 1)).toNat + 1 by omega, List.range_succ_eq_map, List.map_cons, List.map_map]
  refine congr (congrArg List.cons ?_) (List.map_congr_left (fun i _ => ?_))
  · rw [show p + ((0 : Nat) : Int) = p by omega]
  · show u.2.1 13 (p + ((i + 1 : Nat) : Int)) = u.2.1 13 (p + 1 + (i : Int))
    rw [show p + ((i + 1 : Nat) : Int) = p + 1 + (i : Int) by omega]
theorem tx_same [DecidableEq Ob] {u v : iST} (h14 : v.1 14 = u.1 14) (h13 : v.2.1 13 = u.2.1 13) (p : Int) : tx v p = tx u p := by
  unfold tx
  rw [h14, h13]
/-- blanks and remarks are passed over -/
theorem p_skip [DecidableEq Ob] {Q : iST → Prop} {u : iST} (hq : ∀ v, (∀ k, k ≠ 23 → v.1 k = u.1 k) → v.2 = u.2 → u.1 23 ≤ v.1 23 → (∀ k st, Sp.rd (tx v (v.1 23)) k st = Sp.rd (tx u (u.1 23)) k st) → (v.1 23 < v.1 14 → v.2.1 13 (v.1 23) ≠ 59 ∧ ¬ (v.2.1 13 (v.1 23) = 32 ∨ v.2.1 13 (v.1 23) = 10)) → Q v) : pw_skip Q u := by
  unfold pw_skip
  refine pw_skip_2_i (fun x1 v => (∀ k, k ≠ 23 → v.1 k = u.1 k) ∧ v.2 = u.2 ∧ u.1 23 ≤ v.1 23 ∧ (∀ k st, Sp.rd (tx v (v.1 23)) k st = Sp.rd (tx u (u.1 23)) k st) ∧ (x1 = 0 → v.2.1 13 (v.1 23) ≠ 59 ∧ ¬ (v.2.1 13 (v.1 23) = 32 ∨ v.2.1 13 (v.1 23) = 10))) ?_ ⟨fun _ _ => rfl, rfl, Int.le_refl _, fun _ _ => rfl, fun z => by cases z⟩
  rintro x1 v ⟨hn, h2, hle, hr, hx⟩
  have step : ∀ w, (∀ k, k ≠ 23 → w.1 k = v.1 k) → w.2 = v.2 → w.1 23 = v.1 23 + 1 → tx w (w.1 23) = tx v (v.1 23 + 1) := fun w wn w2 w23 => by
    rw [w23]; exact tx_same (wn 14 (by decide)) (by rw [w2]) _
  unfold pw_skip_2b
  refine ⟨fun hz => hq v hn h2 hle hr (fun _ => hx hz), fun hz => ?_⟩
  intro a ea _ b eb _
  rw [ea, eb]
  refine ⟨fun hge => hq v hn h2 hle hr (fun z => by omega), fun hlt => ?_⟩
  have hlt : v.1 23 < v.1 14 := by omega
  have ec := tx_cons hlt
  have sp : ∀ w, w = iI v 23 (v.1 23 + 1) → (v.2.1 13 (v.1 23) = 32 ∨ v.2.1 13 (v.1 23) = 10) → (∀ k, k ≠ 23 → w.1 k = u.1 k) ∧ w.2 = u.2 ∧ u.1 23 ≤ w.1 23 ∧ (∀ k st, Sp.rd (tx w (w.1 23)) k st = Sp.rd (tx u (u.1 23)) k st) ∧ (x1 = 0 → w.2.1 13 (w.1 23) ≠ 59 ∧ ¬ (w.2.1 13 (w.1 23) = 32 ∨ w.2.1 13 (w.1 23) = 10)) := by
    intro w ew hc
    have wn : ∀ k, k ≠ 23 → w.1 k = v.1 k := fun k hk => by rw [ew]; exact if_neg hk
    have w2 : w.2 = v.2 := by rw [ew]; rfl
    have w23 : w.1 23 = v.1 23 + 1 := by rw [ew]; rfl
    refine ⟨fun k hk => (wn k hk).trans (hn k hk), w2.trans h2, by omega, fun k st => ?_, fun z => absurd z hz⟩
    rw [← hr k st, ec, rd_sp hc, step w wn w2 w23]
  intro c ec1 _ _ _ d ed _
  rw [ec1] at ed
  rw [ed]
  refine ⟨fun h59 => ?_, fun h59 => ?_⟩
  · intro c2 ec2 _ _ _ d2 ed2 _
    rw [ec2] at ed2
    rw [ed2]
    refine ⟨fun h32 => ?_, fun h32 => ?_⟩
    · unfold pw_skip_97
      intro e ee _ _ w ew
      rw [ee] at ew
      exact sp w ew (Or.inl h32)
    · intro c3 ec3 _ _ _ d3 ed3 _
      rw [ec3] at ed3
      rw [ed3]
      refine ⟨fun h10 => ⟨hn, h2, hle, hr, fun _ => ⟨h59, fun z => z.elim h32 h10⟩⟩, fun h10 => ?_⟩
      unfold pw_skip_97
      intro e ee _ _ w ew
      rw [ee] at ew
      exact sp w ew (Or.inr (Decidable.not_not.mp h10))
  · have h59 := Decidable.not_not.mp h59
    refine pw_skip_31_i (fun x1 w => x1 ≠ 0 ∧ (∀ k, k ≠ 23 → w.1 k = u.1 k) ∧ w.2 = u.2 ∧ u.1 23 ≤ w.1 23 ∧ (∀ k st, Sp.rd ((tx w (w.1 23)).dropWhile (fun c => decide (c ≠ 10))) k st = Sp.rd (tx u (u.1 23)) k st)) ?_ ⟨hz, hn, h2, hle, fun k st => ?_⟩
    · rintro y1 w ⟨hy, wn, w2, wl, wr⟩
      unfold pw_skip_31b
      intro a1 ea1 _ b1 eb1 _
      rw [ea1, eb1]
      refine ⟨fun hge => ⟨wn, w2, wl, fun k st => ?_, fun z => absurd z hy⟩, fun hlt1 => ?_⟩
      · rw [← wr k st, tx_nil hge]; rfl
      · have ecw := tx_cons (show w.1 23 < w.1 14 by omega)
        intro c4 ec4 _ _ _ d4 ed4 _
        rw [ec4] at ed4
        rw [ed4]
        refine ⟨fun h10 => ⟨wn, w2, wl, fun k st => ?_, fun z => absurd z hy⟩, fun h10 => ?_⟩
        · rw [← wr k st, ecw, List.dropWhile_cons, if_neg (by rw [h10]; decide)]
        · intro e ee _ _ t et
          rw [ee] at et
          have tn : ∀ k, k ≠ 23 → t.1 k = w.1 k := fun k hk => by rw [et]; exact if_neg hk
          have t2 : t.2 = w.2 := by rw [et]; rfl
          have t23 : t.1 23 = w.1 23 + 1 := by rw [et]; rfl
          refine ⟨hy, fun k hk => (tn k hk).trans (wn k hk), t2.trans w2, by omega, fun k st => ?_⟩
          rw [← wr k st, ecw, List.dropWhile_cons, if_pos (decide_eq_true h10), t23]
          rw [tx_same (tn 14 (by decide)) (by rw [t2])]
    · rw [← hr k st, ec, h59, rd_com, List.dropWhile_cons, if_pos (by decide)]
