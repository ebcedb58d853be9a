def pv_10_hasVariablesOf (a0 : Int) (a1 : Int) (Q : Int → iST → Prop) (u : iST) : Prop :=
  pv_10_listParts a0 (fun v1 u => 
  pv_10_hasVariablesOf_9 Q a1 v1 0 u) u
theorem cj_v_10_hasVariablesOf {Q1 Q2 Q3 : Int → iST → Prop}  {a0 : Int} {a1 : Int} {u : iST} (hQ : ∀ r0 r1, Q1 r0 r1 → Q2 r0 r1 → Q3 r0 r1) : v_10_hasVariablesOf a0 a1 Q1 u → pv_10_hasVariablesOf a0 a1 Q2 u → v_10_hasVariablesOf a0 a1 Q3 u := (cj_v_10_listParts (fun _ _ => (cj_v_10_hasVariablesOf_9  hQ)))
theorem mn_v_10_hasVariablesOf {Q1 Q2 : Int → iST → Prop}  {a0 : Int} {a1 : Int} {u : iST} (hQ : ∀ r0 r1, Q1 r0 r1 → Q2 r0 r1) : pv_10_hasVariablesOf a0 a1 Q1 u → pv_10_hasVariablesOf a0 a1 Q2 u := (mn_v_10_listParts (fun _ _ => (mn_v_10_hasVariablesOf_9  hQ)))
theorem wp_v_10_hasVariablesOf {Q1 Q2 : Int → iST → Prop}  {a0 : Int} {a1 : Int} {u : iST} (hQ : ∀ r0 r1, Q1 r0 r1 → Q2 r0 r1) : v_10_hasVariablesOf a0 a1 Q1 u → pv_10_hasVariablesOf a0 a1 Q2 u := (wp_v_10_listParts (fun _ _ => (wp_v_10_hasVariablesOf_9  hQ)))
def pv_11_feed (a0 : Int) (a1 : Int) (a2 : Int) (a3 : Int) (a4 : Int) (Q : iST → Prop) (u : iST) : Prop :=
  bdp 0 5 (sw (iA u 45 0 a0) (fun u => 
  bdp 1 5 (sw (iA u 45 1 a1) (fun u => 
  bdp 2 5 (sw (iA u 45 2 a2) (fun u => 
  bdp 3 5 (sw (iA u 45 3 a3) (fun u => 
  bdp 4 5 (sw (iA u 45 4 a4) (fun u => 
  Q u))))))))))
theorem cj_v_11_feed {Q1 Q2 Q3 : iST → Prop}  {a0 : Int} {a1 : Int} {a2 : Int} {a3 : Int} {a4 : Int} {u : iST} (hQ : ∀ r0, Q1 r0 → Q2 r0 → Q3 r0) : v_11_feed a0 a1 a2 a3 a4 Q1 u → pv_11_feed a0 a1 a2 a3 a4 Q2 u → v_11_feed a0 a1 a2 a3 a4 Q3 u := (bd_cj (sw_cj fun _ => (bd_cj (sw_cj fun _ => (bd_cj (sw_cj fun _ => (bd_cj (sw_cj fun _ => (bd_cj (sw_cj fun _ => (hQ _)))))))))))
theorem mn_v_11_feed {Q1 Q2 : iST → Prop}  {a0 : Int} {a1 : Int} {a2 : Int} {a3 : Int} {a4 : Int} {u : iST} (hQ : ∀ r0, Q1 r0 → Q2 r0) : pv_11_feed a0 a1 a2 a3 a4 Q1 u → pv_11_feed a0 a1 a2 a3 a4 Q2 u := (bd_mn (sw_mn fun _ => (bd_mn (sw_mn fun _ => (bd_mn (sw_mn fun _ => (bd_mn (sw_mn fun _ => (bd_mn (sw_mn fun _ => (hQ _)))))))))))
theorem wp_v_11_feed {Q1 Q2 : iST → Prop}  {a0 : Int} {a1 : Int} {a2 : Int} {a3 : Int} {a4 : Int} {u : iST} (hQ : ∀ r0, Q1 r0 → Q2 r0) : v_11_feed a0 a1 a2 a3 a4 Q1 u → pv_11_feed a0 a1 a2 a3 a4 Q2 u := (bd_wp (sw_wp fun _ => (bd_wp (sw_wp fun _ => (bd_wp (sw_wp fun _ => (bd_wp (sw_wp fun _ => (bd_wp (sw_wp fun _ => (hQ _)))))))))))
def pv_11_end_26b (R26 : Int → Int → iST → Prop) (Q : Int → iST → Prop) (x1 : Int) (x2 : Int) (u : iST) : Prop :=
  br (x1 ≤ x2) (
    rd (u.1 42) (fun v3 => 
    ovp (v3 + x1) (
    sw (iI u 42 (v3 + x1)) (fun u => 
    rw5 u 45 5 0 (fun u => 
    rd (u.1 42) (fun v5 => 
    Q v5 u)))))) (
    rd (u.1 42) (fun v6 => 
    ovp (v6 + x2) (
    (0 : Int) < 4 ∧ (
    bdp (Int.tdiv x2 4) 5 (rd (u.2.1 45 (Int.tdiv x2 4)) (fun v9 => 
    (0 : Int) < 4 ∧ (
    ovp ((Int.tmod x2 4) * 8) (
    ovp (24 - ((Int.tmod x2 4) * 8)) (
    rd (wushr v9 (24 - ((Int.tmod x2 4) * 8))) (fun v13 => 
    rd (wand v13 255) (fun v14 => 
    rd (wi2c v14) (fun v15 => 
    hcp v15 (bdp (v6 + x2) 3000 (sw (iA u 44 (v6 + x2) v15) (fun u => 
    ovp (x2 + 1) (
    R26 x1 (x2 + 1) u))))))))))))))))
theorem cj_v_11_end_26b {Q1 Q2 Q3 : Int → iST → Prop} {R261 R262 R263 : Int → Int → iST → Prop} {x1 : Int} {x2 : Int} {u : iST} (hR26 : ∀ r0 r1 r2, R261 r0 r1 r2 → R262 r0 r1 r2 → R263 r0 r1 r2) (hQ : ∀ r0 r1, Q1 r0 r1 → Q2 r0 r1 → Q3 r0 r1) : v_11_end_26b R261 Q1 x1 x2 u → pv_11_end_26b R262 Q2 x1 x2 u → v_11_end_26b R263 Q3 x1 x2 u := (br_cj (rd_cj fun _ => (ov_cj (sw_cj fun _ => (rw5_cj fun _ => (rd_cj fun _ => (hQ _ _)))))) (rd_cj fun _ => (ov_cj (an_cj (bd_cj (rd_cj fun _ => (an_cj (ov_cj (ov_cj (rd_cj fun _ => (rd_cj fun _ => (rd_cj fun _ => (hc_cj (bd_cj (sw_cj fun _ => (ov_cj (hR26 _ _ _)))))))))))))))))
theorem mn_v_11_end_26b {Q1 Q2 : Int → iST → Prop} {R261 R262 : Int → Int → iST → Prop} {x1 : Int} {x2 : Int} {u : iST} (hR26 : ∀ r0 r1 r2, R261 r0 r1 r2 → R262 r0 r1 r2) (hQ : ∀ r0 r1, Q1 r0 r1 → Q2 r0 r1) : pv_11_end_26b R261 Q1 x1 x2 u → pv_11_end_26b R262 Q2 x1 x2 u := (br_mn (rd_mn fun _ => (ov_mn (sw_mn fun _ => (rw5_mn fun _ => (rd_mn fun _ => (hQ _ _)))))) (rd_mn fun _ => (ov_mn (an_mn (bd_mn (rd_mn fun _ => (an_mn (ov_mn (ov_mn (rd_mn fun _ => (rd_mn fun _ => (rd_mn fun _ => (hc_mn (bd_mn (sw_mn fun _ => (ov_mn (hR26 _ _ _)))))))))))))))))
theorem wp_v_11_end_26b {Q1 Q2 : Int → iST → Prop} {R261 R262 : Int → Int → iST → Prop} {x1 : Int} {x2 : Int} {u : iST} (hR26 : ∀ r0 r1 r2, R261 r0 r1 r2 → R262 r0 r1 r2) (hQ : ∀ r0 r1, Q1 r0 r1 → Q2 r0 r1) : v_11_end_26b R261 Q1 x1 x2 u → pv_11_end_26b R262 Q2 x1 x2 u := (br_wp (rd_wp fun _ => (ov_wp (sw_wp fun _ => (rw5_wp fun _ => (rd_wp fun _ => (hQ _ _)))))) (rd_wp fun _ => (ov_wp (an_wp (bd_wp (rd_wp fun _ => (an_wp (ov_wp (ov_wp (rd_wp fun _ => (rd_wp fun _ => (rd_wp fun _ => (hc_wp (bd_wp (sw_wp fun _ => (ov_wp (hR26 _ _ _)))))))))))))))))
def pv_11_end_26 (Q : Int → iST → Prop) (x1 : Int) (x2 : Int) (u : iST) : Prop := ∃ R26 : Int → Int → iST → Prop, (∀ (x1 : Int) (x2 : Int) (u : iST), R26 x1 x2 u → pv_11_end_26b R26 Q x1 x2 u) ∧ R26 x1 x2 u
theorem cj_v_11_end_26 {Q1 Q2 Q3 : Int → iST → Prop}  {x1 : Int} {x2 : Int} {u : iST} (hQ : ∀ r0 r1, Q1 r0 r1 → Q2 r0 r1 → Q3 r0 r1) : v_11_end_26 Q1 x1 x2 u → pv_11_end_26 Q2 x1 x2 u → v_11_end_26 Q3 x1 x2 u := by
  intro a b R3 c3
  obtain ⟨R2, c2, b2⟩ := b
  exact a (fun r0 r1 r2 => R2 r0 r1 r2 → R3 r0 r1 r2) (fun r0 r1 r2 a b => c3 r0 r1 r2 (cj_v_11_end_26b (fun r0 r1 r2 a b => a b) hQ a (c2 r0 r1 r2 b))) b2
theorem pv_11_end_26_i  {Q : Int → iST → Prop} {x1 : Int} {x2 : Int} {u : iST} (I : Int → Int → iST → Prop) (s : ∀ (x1 : Int) (x2 : Int) (u : iST), I x1 x2 u → pv_11_end_26b I Q x1 x2 u) (h : I x1 x2 u) : pv_11_end_26 Q x1 x2 u := ⟨I, s, h⟩
theorem mn_v_11_end_26 {Q1 Q2 : Int → iST → Prop}  {x1 : Int} {x2 : Int} {u : iST} (hQ : ∀ r0 r1, Q1 r0 r1 → Q2 r0 r1) : pv_11_end_26 Q1 x1 x2 u → pv_11_end_26 Q2 x1 x2 u := fun ⟨R, s, h⟩ => ⟨R, fun r0 r1 r2 a => mn_v_11_end_26b (fun r0 r1 r2 a => a) hQ (s r0 r1 r2 a), h⟩
theorem un_v_11_end_26  {Q : Int → iST → Prop} {x1 : Int} {x2 : Int} {u : iST} : pv_11_end_26 Q x1 x2 u → pv_11_end_26b (fun x1 x2 u => pv_11_end_26 Q x1 x2 u) Q x1 x2 u := fun ⟨R, s, h⟩ => mn_v_11_end_26b (fun r0 r1 r2 a => ⟨R, s, a⟩) (fun _ _ h => h) (s _ _ _ h)
theorem fo_v_11_end_26  {Q : Int → iST → Prop} {x1 : Int} {x2 : Int} {u : iST} : pv_11_end_26b (fun x1 x2 u => pv_11_end_26 Q x1 x2 u) Q x1 x2 u → pv_11_end_26 Q x1 x2 u := fun h => ⟨fun x1 x2 u => pv_11_end_26b (fun x1 x2 u => pv_11_end_26 Q x1 x2 u) Q x1 x2 u, fun r0 r1 r2 a => mn_v_11_end_26b (fun r0 r1 r2 a => un_v_11_end_26 a) (fun _ _ h => h) a, h⟩
theorem wp_v_11_end_26 {Q1 Q2 : Int → iST → Prop}  {x1 : Int} {x2 : Int} {u : iST} (hQ : ∀ r0 r1, Q1 r0 r1 → Q2 r0 r1) : v_11_end_26 Q1 x1 x2 u → pv_11_end_26 Q2 x1 x2 u := fun a => a (fun x1 x2 u => pv_11_end_26 Q2 x1 x2 u) (fun x1 x2 u b => fo_v_11_end_26 (wp_v_11_end_26b (fun r0 r1 r2 a => a) hQ b))
def pv_11_end (a0 : Int) (Q : Int → iST → Prop) (u : iST) : Prop :=
  br (a0 < 0) (
    Q (-1) u) (
    br (20 < a0) (
      Q (-1) u) (
      rd (u.1 42) (fun v1 => 
      ovp (v1 + a0) (
      br ((v1 + a0) ≤ 3000) (
        pv_11_end_26 Q a0 0 u) (
        Q (-1) u)))))
theorem cj_v_11_end {Q1 Q2 Q3 : Int → iST → Prop}  {a0 : Int} {u : iST} (hQ : ∀ r0 r1, Q1 r0 r1 → Q2 r0 r1 → Q3 r0 r1) : v_11_end a0 Q1 u → pv_11_end a0 Q2 u → v_11_end a0 Q3 u := (br_cj (hQ _ _) (br_cj (hQ _ _) (rd_cj fun _ => (ov_cj (br_cj (cj_v_11_end_26  hQ) (hQ _ _))))))
theorem mn_v_11_end {Q1 Q2 : Int → iST → Prop}  {a0 : Int} {u : iST} (hQ : ∀ r0 r1, Q1 r0 r1 → Q2 r0 r1) : pv_11_end a0 Q1 u → pv_11_end a0 Q2 u := (br_mn (hQ _ _) (br_mn (hQ _ _) (rd_mn fun _ => (ov_mn (br_mn (mn_v_11_end_26  hQ) (hQ _ _))))))
theorem wp_v_11_end {Q1 Q2 : Int → iST → Prop}  {a0 : Int} {u : iST} (hQ : ∀ r0 r1, Q1 r0 r1 → Q2 r0 r1) : v_11_end a0 Q1 u → pv_11_end a0 Q2 u := (br_wp (hQ _ _) (br_wp (hQ _ _) (rd_wp fun _ => (ov_wp (br_wp (wp_v_11_end_26  hQ) (hQ _ _))))))
def pv_11_fuel (a0 : Int) (Q : Int → iST → Prop) (u : iST) : Prop :=
  br (a0 < 1) (
    Q (-1) u) (
    br (a0 ≤ 1000) (
      rd (u.1 43) (fun v1 => 
      sw (iI u 43 a0) (fun u => 
      Q v1 u))) (
      Q (-1) u))
theorem cj_v_11_fuel {Q1 Q2 Q3 : Int → iST → Prop}  {a0 : Int} {u : iST} (hQ : ∀ r0 r1, Q1 r0 r1 → Q2 r0 r1 → Q3 r0 r1) : v_11_fuel a0 Q1 u → pv_11_fuel a0 Q2 u → v_11_fuel a0 Q3 u := (br_cj (hQ _ _) (br_cj (rd_cj fun _ => (sw_cj fun _ => (hQ _ _))) (hQ _ _)))
theorem mn_v_11_fuel {Q1 Q2 : Int → iST → Prop}  {a0 : Int} {u : iST} (hQ : ∀ r0 r1, Q1 r0 r1 → Q2 r0 r1) : pv_11_fuel a0 Q1 u → pv_11_fuel a0 Q2 u := (br_mn (hQ _ _) (br_mn (rd_mn fun _ => (sw_mn fun _ => (hQ _ _))) (hQ _ _)))
theorem wp_v_11_fuel {Q1 Q2 : Int → iST → Prop}  {a0 : Int} {u : iST} (hQ : ∀ r0 r1, Q1 r0 r1 → Q2 r0 r1) : v_11_fuel a0 Q1 u → pv_11_fuel a0 Q2 u := (br_wp (hQ _ _) (br_wp (rd_wp fun _ => (sw_wp fun _ => (hQ _ _))) (hQ _ _)))
def pv_11_forgetLatest (Q : iST → Prop) (u : iST) : Prop :=
  pv_9_clear 0 (fun u => 
  rd (u.1 3) (fun v2 => 
  pv_7_forget v2 (fun u => 
  pv_7_begin 0 (fun u => 
  pv_0_muteNone (fun u => 
  pv_4_begin (fun u => 
  sw (iI u 44 (-1)) (fun u => 
  sw (iI u 45 (-1)) (fun u => 
  sw (iI u 46 (-1)) (fun u => 
  sw (iI u 47 0) (fun u => 
  sw (iI u 48 0) (fun u => 
  sw (iI u 49 0) (fun u => 
  ztp 0 (sw (iI u 50 0) (fun u => 
  Q u))))))))) u) u) u) u)) u
theorem cj_v_11_forgetLatest {Q1 Q2 Q3 : iST → Prop}  {u : iST} (hQ : ∀ r0, Q1 r0 → Q2 r0 → Q3 r0) : v_11_forgetLatest Q1 u → pv_11_forgetLatest Q2 u → v_11_forgetLatest Q3 u := (cj_v_9_clear (fun _ => (rd_cj fun _ => (cj_v_7_forget (fun _ => (cj_v_7_begin (fun _ => (cj_v_0_muteNone (fun _ => (cj_v_4_begin (fun _ => (sw_cj fun _ => (sw_cj fun _ => (sw_cj fun _ => (sw_cj fun _ => (sw_cj fun _ => (sw_cj fun _ => (zt_cj (sw_cj fun _ => (hQ _))))))))))))))))))))
theorem mn_v_11_forgetLatest {Q1 Q2 : iST → Prop}  {u : iST} (hQ : ∀ r0, Q1 r0 → Q2 r0) : pv_11_forgetLatest Q1 u → pv_11_forgetLatest Q2 u := (mn_v_9_clear (fun _ => (rd_mn fun _ => (mn_v_7_forget (fun _ => (mn_v_7_begin (fun _ => (mn_v_0_muteNone (fun _ => (mn_v_4_begin (fun _ => (sw_mn fun _ => (sw_mn fun _ => (sw_mn fun _ => (sw_mn fun _ => (sw_mn fun _ => (sw_mn fun _ => (zt_mn (sw_mn fun _ => (hQ _))))))))))))))))))))
theorem wp_v_11_forgetLatest {Q1 Q2 : iST → Prop}  {u : iST} (hQ : ∀ r0, Q1 r0 → Q2 r0) : v_11_forgetLatest Q1 u → pv_11_forgetLatest Q2 u := (wp_v_9_clear (fun _ => (rd_wp fun _ => (wp_v_7_forget (fun _ => (wp_v_7_begin (fun _ => (wp_v_0_muteNone (fun _ => (wp_v_4_begin (fun _ => (sw_wp fun _ => (sw_wp fun _ => (sw_wp fun _ => (sw_wp fun _ => (sw_wp fun _ => (sw_wp fun _ => (zt_wp (sw_wp fun _ => (hQ _))))))))))))))))))))
def pv_11_isTermAt (a0 : Int) (a1 : Int) (Q : Int → iST → Prop) (u : iST) : Prop :=
  pv_7_item a0 a1 (fun v1 u => 
  pv_10_rebuilt v1 0 (fun v2 u => 
  sw (iI u 45 v2) (fun u => 
  rd (u.1 45) (fun v3 => 
  br (v3 = (-1)) (
    ztp 0 (Q 0 u)) (
    ztp 1 (Q 1 u))))) u) u
theorem cj_v_11_isTermAt {Q1 Q2 Q3 : Int → iST → Prop}  {a0 : Int} {a1 : Int} {u : iST} (hQ : ∀ r0 r1, Q1 r0 r1 → Q2 r0 r1 → Q3 r0 r1) : v_11_isTermAt a0 a1 Q1 u → pv_11_isTermAt a0 a1 Q2 u → v_11_isTermAt a0 a1 Q3 u := (cj_v_7_item (fun _ _ => (cj_v_10_rebuilt (fun _ _ => (sw_cj fun _ => (rd_cj fun _ => (br_cj (zt_cj (hQ _ _)) (zt_cj (hQ _ _)))))))))
theorem mn_v_11_isTermAt {Q1 Q2 : Int → iST → Prop}  {a0 : Int} {a1 : Int} {u : iST} (hQ : ∀ r0 r1, Q1 r0 r1 → Q2 r0 r1) : pv_11_isTermAt a0 a1 Q1 u → pv_11_isTermAt a0 a1 Q2 u := (mn_v_7_item (fun _ _ => (mn_v_10_rebuilt (fun _ _ => (sw_mn fun _ => (rd_mn fun _ => (br_mn (zt_mn (hQ _ _)) (zt_mn (hQ _ _)))))))))
theorem wp_v_11_isTermAt {Q1 Q2 : Int → iST → Prop}  {a0 : Int} {a1 : Int} {u : iST} (hQ : ∀ r0 r1, Q1 r0 r1 → Q2 r0 r1) : v_11_isTermAt a0 a1 Q1 u → pv_11_isTermAt a0 a1 Q2 u := (wp_v_7_item (fun _ _ => (wp_v_10_rebuilt (fun _ _ => (sw_wp fun _ => (rd_wp fun _ => (br_wp (zt_wp (hQ _ _)) (zt_wp (hQ _ _)))))))))
def pv_11_isNameAt (a0 : Int) (Q : Int → iST → Prop) (u : iST) : Prop :=
  pv_7_item a0 1 (fun v1 u => 
  sw (iI u 44 v1) (fun u => 
  rd (u.1 44) (fun v2 => 
  pv_7_isName v2 (fun v3 u => 
  ztp v3 (Q v3 u)) u))) u
theorem cj_v_11_isNameAt {Q1 Q2 Q3 : Int → iST → Prop}  {a0 : Int} {u : iST} (hQ : ∀ r0 r1, Q1 r0 r1 → Q2 r0 r1 → Q3 r0 r1) : v_11_isNameAt a0 Q1 u → pv_11_isNameAt a0 Q2 u → v_11_isNameAt a0 Q3 u := (cj_v_7_item (fun _ _ => (sw_cj fun _ => (rd_cj fun _ => (cj_v_7_isName (fun _ _ => (zt_cj (hQ _ _))))))))
theorem mn_v_11_isNameAt {Q1 Q2 : Int → iST → Prop}  {a0 : Int} {u : iST} (hQ : ∀ r0 r1, Q1 r0 r1 → Q2 r0 r1) : pv_11_isNameAt a0 Q1 u → pv_11_isNameAt a0 Q2 u := (mn_v_7_item (fun _ _ => (sw_mn fun _ => (rd_mn fun _ => (mn_v_7_isName (fun _ _ => (zt_mn (hQ _ _))))))))
theorem wp_v_11_isNameAt {Q1 Q2 : Int → iST → Prop}  {a0 : Int} {u : iST} (hQ : ∀ r0 r1, Q1 r0 r1 → Q2 r0 r1) : v_11_isNameAt a0 Q1 u → pv_11_isNameAt a0 Q2 u := (wp_v_7_item (fun _ _ => (sw_wp fun _ => (rd_wp fun _ => (wp_v_7_isName (fun _ _ => (zt_wp (hQ _ _))))))))
def pv_11_isDefinition_153 (Q : Int → iST → Prop) (x2 : Int) (x3 : Int) (u : iST) : Prop :=
  rd (u.1 45) (fun v8 => 
  rd (u.1 44) (fun v9 => 
  pv_10_hasCallOf v8 v9 (fun v10 u => 
  br (v10 ≠ x2) (
    ztp 0 (Q 0 u)) (
    rd (u.1 44) (fun v11 => 
    rd (u.1 45) (fun v12 => 
    pv_8_isFlat v11 v12 (fun v13 u => 
    br (v13 = 0) (
      ztp 0 (Q 0 u)) (
      rd (u.1 45) (fun v14 => 
      pv_10_hasVariablesOf v14 x3 (fun v15 u => 
      br (v15 = 0) (
        ztp 0 (Q 0 u)) (
        br (x2 = 0) (
          ztp 1 (Q 1 u)) (
          rd (u.1 46) (fun v16 => 
          pv_10_hasVariablesOf v16 x3 (fun v17 u => 
          br (v17 = 0) (
            ztp 0 (Q 0 u)) (
            ztp 1 (Q 1 u))) u)))) u))) u)))) u))
theorem cj_v_11_isDefinition_153 {Q1 Q2 Q3 : Int → iST → Prop}  {x2 : Int} {x3 : Int} {u : iST} (hQ : ∀ r0 r1, Q1 r0 r1 → Q2 r0 r1 → Q3 r0 r1) : v_11_isDefinition_153 Q1 x2 x3 u → pv_11_isDefinition_153 Q2 x2 x3 u → v_11_isDefinition_153 Q3 x2 x3 u := (rd_cj fun _ => (rd_cj fun _ => (cj_v_10_hasCallOf (fun _ _ => (br_cj (zt_cj (hQ _ _)) (rd_cj fun _ => (rd_cj fun _ => (cj_v_8_isFlat (fun _ _ => (br_cj (zt_cj (hQ _ _)) (rd_cj fun _ => (cj_v_10_hasVariablesOf (fun _ _ => (br_cj (zt_cj (hQ _ _)) (br_cj (zt_cj (hQ _ _)) (rd_cj fun _ => (cj_v_10_hasVariablesOf (fun _ _ => (br_cj (zt_cj (hQ _ _)) (zt_cj (hQ _ _)))))))))))))))))))))
theorem mn_v_11_isDefinition_153 {Q1 Q2 : Int → iST → Prop}  {x2 : Int} {x3 : Int} {u : iST} (hQ : ∀ r0 r1, Q1 r0 r1 → Q2 r0 r1) : pv_11_isDefinition_153 Q1 x2 x3 u → pv_11_isDefinition_153 Q2 x2 x3 u := (rd_mn fun _ => (rd_mn fun _ => (mn_v_10_hasCallOf (fun _ _ => (br_mn (zt_mn (hQ _ _)) (rd_mn fun _ => (rd_mn fun _ => (mn_v_8_isFlat (fun _ _ => (br_mn (zt_mn (hQ _ _)) (rd_mn fun _ => (mn_v_10_hasVariablesOf (fun _ _ => (br_mn (zt_mn (hQ _ _)) (br_mn (zt_mn (hQ _ _)) (rd_mn fun _ => (mn_v_10_hasVariablesOf (fun _ _ => (br_mn (zt_mn (hQ _ _)) (zt_mn (hQ _ _)))))))))))))))))))))
theorem wp_v_11_isDefinition_153 {Q1 Q2 : Int → iST → Prop}  {x2 : Int} {x3 : Int} {u : iST} (hQ : ∀ r0 r1, Q1 r0 r1 → Q2 r0 r1) : v_11_isDefinition_153 Q1 x2 x3 u → pv_11_isDefinition_153 Q2 x2 x3 u := (rd_wp fun _ => (rd_wp fun _ => (wp_v_10_hasCallOf (fun _ _ => (br_wp (zt_wp (hQ _ _)) (rd_wp fun _ => (rd_wp fun _ => (wp_v_8_isFlat (fun _ _ => (br_wp (zt_wp (hQ _ _)) (rd_wp fun _ => (wp_v_10_hasVariablesOf (fun _ _ => (br_wp (zt_wp (hQ _ _)) (br_wp (zt_wp (hQ _ _)) (rd_wp fun _ => (wp_v_10_hasVariablesOf (fun _ _ => (br_wp (zt_wp (hQ _ _)) (zt_wp (hQ _ _)))))))))))))))))))))
def pv_11_isDefinition_120 (Q : Int → iST → Prop) (x2 : Int) (x3 : Int) (y1 : Int) (u : iST) : Prop :=
  sw (iI u 46 y1) (fun u => 
  sw (iI u 37 (-1)) (fun u => 
  rd (u.1 45) (fun v7 => 
  br (v7 = (-1)) (
    ztp 0 (Q 0 u)) (
    br (x2 = 0) (
      pv_11_isDefinition_153 Q x2 x3 u) (
      rd (u.1 46) (fun v18 => 
      br (v18 ≠ (-1)) (
        pv_11_isDefinition_153 Q x2 x3 u) (
        ztp 0 (Q 0 u))))))))
theorem cj_v_11_isDefinition_120 {Q1 Q2 Q3 : Int → iST → Prop}  {x2 : Int} {x3 : Int} {y1 : Int} {u : iST} (hQ : ∀ r0 r1, Q1 r0 r1 → Q2 r0 r1 → Q3 r0 r1) : v_11_isDefinition_120 Q1 x2 x3 y1 u → pv_11_isDefinition_120 Q2 x2 x3 y1 u → v_11_isDefinition_120 Q3 x2 x3 y1 u := (sw_cj fun _ => (sw_cj fun _ => (rd_cj fun _ => (br_cj (zt_cj (hQ _ _)) (br_cj (cj_v_11_isDefinition_153  hQ) (rd_cj fun _ => (br_cj (cj_v_11_isDefinition_153  hQ) (zt_cj (hQ _ _)))))))))
theorem mn_v_11_isDefinition_120 {Q1 Q2 : Int → iST → Prop}  {x2 : Int} {x3 : Int} {y1 : Int} {u : iST} (hQ : ∀ r0 r1, Q1 r0 r1 → Q2 r0 r1) : pv_11_isDefinition_120 Q1 x2 x3 y1 u → pv_11_isDefinition_120 Q2 x2 x3 y1 u := (sw_mn fun _ => (sw_mn fun _ => (rd_mn fun _ => (br_mn (zt_mn (hQ _ _)) (br_mn (mn_v_11_isDefinition_153  hQ) (rd_mn fun _ => (br_mn (mn_v_11_isDefinition_153  hQ) (zt_mn (hQ _ _)))))))))
theorem wp_v_11_isDefinition_120 {Q1 Q2 : Int → iST → Prop}  {x2 : Int} {x3 : Int} {y1 : Int} {u : iST} (hQ : ∀ r0 r1, Q1 r0 r1 → Q2 r0 r1) : v_11_isDefinition_120 Q1 x2 x3 y1 u → pv_11_isDefinition_120 Q2 x2 x3 y1 u := (sw_wp fun _ => (sw_wp fun _ => (rd_wp fun _ => (br_wp (zt_wp (hQ _ _)) (br_wp (wp_v_11_isDefinition_153  hQ) (rd_wp fun _ => (br_wp (wp_v_11_isDefinition_153  hQ) (zt_wp (hQ _ _)))))))))
def pv_11_isDefinition (a0 : Int) (a1 : Int) (Q : Int → iST → Prop) (u : iST) : Prop :=
  pv_7_item a0 2 (fun v1 u => 
  pv_7_lengthOf v1 (fun v2 u => 
  br (v2 < 0) (
    ztp 0 (Q 0 u)) (
    br (6 < v2) (
      ztp 0 (Q 0 u)) (
      pv_10_areDifferentVariables v1 (fun v3 u => 
      br (v3 ≠ 0) (
        rd (u.1 44) (fun v4 => 
        sw (iI u 37 v4) (fun u => 
        sw (iI u 38 v2) (fun u => 
        pv_7_item a0 3 (fun v5 u => 
        pv_10_rebuilt v5 0 (fun v6 u => 
        sw (iI u 45 v6) (fun u => 
        sw (iI u 38 (-1)) (fun u => 
        br (a1 = 0) (
          pv_11_isDefinition_120 Q a1 v1 (-1) u) (
          pv_7_item a0 4 (fun v19 u => 
          pv_10_rebuilt v19 0 (fun v20 u => 
          pv_11_isDefinition_120 Q a1 v1 v20 u) u) u)))) u) u)))) (
        ztp 0 (Q 0 u))) u))) u) u
theorem cj_v_11_isDefinition {Q1 Q2 Q3 : Int → iST → Prop}  {a0 : Int} {a1 : Int} {u : iST} (hQ : ∀ r0 r1, Q1 r0 r1 → Q2 r0 r1 → Q3 r0 r1) : v_11_isDefinition a0 a1 Q1 u → pv_11_isDefinition a0 a1 Q2 u → v_11_isDefinition a0 a1 Q3 u := (cj_v_7_item (fun _ _ => (cj_v_7_lengthOf (fun _ _ => (br_cj (zt_cj (hQ _ _)) (br_cj (zt_cj (hQ _ _)) (cj_v_10_areDifferentVariables (fun _ _ => (br_cj (rd_cj fun _ => (sw_cj fun _ => (sw_cj fun _ => (cj_v_7_item (fun _ _ => (cj_v_10_rebuilt (fun _ _ => (sw_cj fun _ => (sw_cj fun _ => (br_cj (cj_v_11_isDefinition_120  hQ) (cj_v_7_item (fun _ _ => (cj_v_10_rebuilt (fun _ _ => (cj_v_11_isDefinition_120  hQ))))))))))))))) (zt_cj (hQ _ _)))))))))))
theorem mn_v_11_isDefinition {Q1 Q2 : Int → iST → Prop}  {a0 : Int} {a1 : Int} {u : iST} (hQ : ∀ r0 r1, Q1 r0 r1 → Q2 r0 r1) : pv_11_isDefinition a0 a1 Q1 u → pv_11_isDefinition a0 a1 Q2 u := (mn_v_7_item (fun _ _ => (mn_v_7_lengthOf (fun _ _ => (br_mn (zt_mn (hQ _ _)) (br_mn (zt_mn (hQ _ _)) (mn_v_10_areDifferentVariables (fun _ _ => (br_mn (rd_mn fun _ => (sw_mn fun _ => (sw_mn fun _ => (mn_v_7_item (fun _ _ => (mn_v_10_rebuilt (fun _ _ => (sw_mn fun _ => (sw_mn fun _ => (br_mn (mn_v_11_isDefinition_120  hQ) (mn_v_7_item (fun _ _ => (mn_v_10_rebuilt (fun _ _ => (mn_v_11_isDefinition_120  hQ))))))))))))))) (zt_mn (hQ _ _)))))))))))
theorem wp_v_11_isDefinition {Q1 Q2 : Int → iST → Prop}  {a0 : Int} {a1 : Int} {u : iST} (hQ : ∀ r0 r1, Q1 r0 r1 → Q2 r0 r1) : v_11_isDefinition a0 a1 Q1 u → pv_11_isDefinition a0 a1 Q2 u := (wp_v_7_item (fun _ _ => (wp_v_7_lengthOf (fun _ _ => (br_wp (zt_wp (hQ _ _)) (br_wp (zt_wp (hQ _ _)) (wp_v_10_areDifferentVariables (fun _ _ => (br_wp (rd_wp fun _ => (sw_wp fun _ => (sw_wp fun _ => (wp_v_7_item (fun _ _ => (wp_v_10_rebuilt (fun _ _ => (sw_wp fun _ => (sw_wp fun _ => (br_wp (wp_v_11_isDefinition_120  hQ) (wp_v_7_item (fun _ _ => (wp_v_10_rebuilt (fun _ _ => (wp_v_11_isDefinition_120  hQ))))))))))))))) (zt_wp (hQ _ _)))))))))))
def pv_11_isAsTold_282 (Q : Int → iST → Prop) (y1 : Int) (y2 : Int) (u : iST) : Prop :=
  pv_11_isDefinition y1 y2 (fun v14 u => 
  br (v14 = 0) (
    ztp 0 (Q 0 u)) (
    ztp 1 (Q 1 u))) u
theorem cj_v_11_isAsTold_282 {Q1 Q2 Q3 : Int → iST → Prop}  {y1 : Int} {y2 : Int} {u : iST} (hQ : ∀ r0 r1, Q1 r0 r1 → Q2 r0 r1 → Q3 r0 r1) : v_11_isAsTold_282 Q1 y1 y2 u → pv_11_isAsTold_282 Q2 y1 y2 u → v_11_isAsTold_282 Q3 y1 y2 u := (cj_v_11_isDefinition (fun _ _ => (br_cj (zt_cj (hQ _ _)) (zt_cj (hQ _ _)))))
theorem mn_v_11_isAsTold_282 {Q1 Q2 : Int → iST → Prop}  {y1 : Int} {y2 : Int} {u : iST} (hQ : ∀ r0 r1, Q1 r0 r1 → Q2 r0 r1) : pv_11_isAsTold_282 Q1 y1 y2 u → pv_11_isAsTold_282 Q2 y1 y2 u := (mn_v_11_isDefinition (fun _ _ => (br_mn (zt_mn (hQ _ _)) (zt_mn (hQ _ _)))))
theorem wp_v_11_isAsTold_282 {Q1 Q2 : Int → iST → Prop}  {y1 : Int} {y2 : Int} {u : iST} (hQ : ∀ r0 r1, Q1 r0 r1 → Q2 r0 r1) : v_11_isAsTold_282 Q1 y1 y2 u → pv_11_isAsTold_282 Q2 y1 y2 u := (wp_v_11_isDefinition (fun _ _ => (br_wp (zt_wp (hQ _ _)) (zt_wp (hQ _ _)))))
def pv_11_isAsTold_262 (Q : Int → iST → Prop) (x1 : Int) (x2 : Int) (u : iST) : Prop :=
  pv_11_isNameAt x1 (fun v13 u => 
  br (v13 = 0) (
    ztp 0 (Q 0 u)) (
    br (x2 ≠ 5) (
      pv_11_isAsTold_282 Q x1 0 u) (
      pv_11_isAsTold_282 Q x1 1 u))) u
theorem cj_v_11_isAsTold_262 {Q1 Q2 Q3 : Int → iST → Prop}  {x1 : Int} {x2 : Int} {u : iST} (hQ : ∀ r0 r1, Q1 r0 r1 → Q2 r0 r1 → Q3 r0 r1) : v_11_isAsTold_262 Q1 x1 x2 u → pv_11_isAsTold_262 Q2 x1 x2 u → v_11_isAsTold_262 Q3 x1 x2 u := (cj_v_11_isNameAt (fun _ _ => (br_cj (zt_cj (hQ _ _)) (br_cj (cj_v_11_isAsTold_282  hQ) (cj_v_11_isAsTold_282  hQ)))))
theorem mn_v_11_isAsTold_262 {Q1 Q2 : Int → iST → Prop}  {x1 : Int} {x2 : Int} {u : iST} (hQ : ∀ r0 r1, Q1 r0 r1 → Q2 r0 r1) : pv_11_isAsTold_262 Q1 x1 x2 u → pv_11_isAsTold_262 Q2 x1 x2 u := (mn_v_11_isNameAt (fun _ _ => (br_mn (zt_mn (hQ _ _)) (br_mn (mn_v_11_isAsTold_282  hQ) (mn_v_11_isAsTold_282  hQ)))))
theorem wp_v_11_isAsTold_262 {Q1 Q2 : Int → iST → Prop}  {x1 : Int} {x2 : Int} {u : iST} (hQ : ∀ r0 r1, Q1 r0 r1 → Q2 r0 r1) : v_11_isAsTold_262 Q1 x1 x2 u → pv_11_isAsTold_262 Q2 x1 x2 u := (wp_v_11_isNameAt (fun _ _ => (br_wp (zt_wp (hQ _ _)) (br_wp (wp_v_11_isAsTold_282  hQ) (wp_v_11_isAsTold_282  hQ)))))
def pv_11_isAsTold_26 (Q : Int → iST → Prop) (x1 : Int) (x2 : Int) (y0 : Int) (u : iST) : Prop :=
  br (y0 = 17) (
    br (x2 ≠ 2) (
      ztp 0 (Q 0 u)) (
      pv_11_isTermAt x1 1 (fun v3 u => 
      br (v3 = 0) (
        ztp 0 (Q 0 u)) (
        rd (u.1 45) (fun v4 => 
        pv_10_hasVariablesOf v4 0 (fun v5 u => 
        br (v5 = 0) (
          ztp 0 (Q 0 u)) (
          ztp 1 (Q 1 u))) u))) u)) (
  br (y0 = 18) (
    br (x2 ≠ 2) (
      ztp 0 (Q 0 u)) (
      pv_11_isTermAt x1 1 (fun v7 u => 
      br (v7 = 0) (
        ztp 0 (Q 0 u)) (
        ztp 1 (Q 1 u))) u)) (
  br (y0 = 19) (
    pv_7_right x1 (fun v9 u => 
    pv_7_right v9 (fun v10 u => 
    sw (iI u 47 v10) (fun u => 
    br (x2 < 2) (
      ztp 0 (Q 0 u)) (
      pv_11_isTermAt x1 1 (fun v11 u => 
      br (v11 = 0) (
        ztp 0 (Q 0 u)) (
        ztp 1 (Q 1 u))) u))) u) u) (
  br (y0 = 20) (
    br (x2 = 4) (
      pv_11_isAsTold_262 Q x1 x2 u) (
      br (x2 ≠ 5) (
        ztp 0 (Q 0 u)) (
        pv_11_isAsTold_262 Q x1 x2 u))) (
  br (y0 = 21) (
    pv_7_right x1 (fun v16 u => 
    pv_7_right v16 (fun v17 u => 
    pv_7_right v17 (fun v18 u => 
    sw (iI u 47 v18) (fun u => 
    br (x2 < 3) (
      ztp 0 (Q 0 u)) (
      pv_11_isNameAt x1 (fun v19 u => 
      br (v19 = 0) (
        ztp 0 (Q 0 u)) (
        pv_11_isTermAt x1 2 (fun v20 u => 
        br (v20 = 0) (
          ztp 0 (Q 0 u)) (
          ztp 1 (Q 1 u))) u)) u))) u) u) u) (
  br (y0 = 22) (
    br (x2 ≠ 4) (
      ztp 0 (Q 0 u)) (
      pv_11_isNameAt x1 (fun v22 u => 
      br (v22 = 0) (
        ztp 0 (Q 0 u)) (
        pv_11_isTermAt x1 2 (fun v23 u => 
        br (v23 = 0) (
          ztp 0 (Q 0 u)) (
          ztp 1 (Q 1 u))) u)) u)) (
  br (y0 = 23) (
    br (x2 ≠ 2) (
      ztp 0 (Q 0 u)) (
      pv_11_isNameAt x1 (fun v25 u => 
      br (v25 = 0) (
        ztp 0 (Q 0 u)) (
        ztp 1 (Q 1 u))) u)) (
  br (y0 = 24) (
    br (x2 ≠ 2) (
      ztp 0 (Q 0 u)) (
      pv_11_isNameAt x1 (fun v27 u => 
      br (v27 = 0) (
        ztp 0 (Q 0 u)) (
        ztp 1 (Q 1 u))) u)) (
  br (y0 = 25) (
    br (x2 ≠ 1) (
      ztp 0 (Q 0 u)) (
      ztp 1 (Q 1 u))) (
  ztp 0 (Q 0 u))))))))))
theorem cj_v_11_isAsTold_26 {Q1 Q2 Q3 : Int → iST → Prop}  {x1 : Int} {x2 : Int} {y0 : Int} {u : iST} (hQ : ∀ r0 r1, Q1 r0 r1 → Q2 r0 r1 → Q3 r0 r1) : v_11_isAsTold_26 Q1 x1 x2 y0 u → pv_11_isAsTold_26 Q2 x1 x2 y0 u → v_11_isAsTold_26 Q3 x1 x2 y0 u := (br_cj (br_cj (zt_cj (hQ _ _)) (cj_v_11_isTermAt (fun _ _ => (br_cj (zt_cj (hQ _ _)) (rd_cj fun _ => (cj_v_10_hasVariablesOf (fun _ _ => (br_cj (zt_cj (hQ _ _)) (zt_cj (hQ _ _)))))))))) (br_cj (br_cj (zt_cj (hQ _ _)) (cj_v_11_isTermAt (fun _ _ => (br_cj (zt_cj (hQ _ _)) (zt_cj (hQ _ _)))))) (br_cj (cj_v_7_right (fun _ _ => (cj_v_7_right (fun _ _ => (sw_cj fun _ => (br_cj (zt_cj (hQ _ _)) (cj_v_11_isTermAt (fun _ _ => (br_cj (zt_cj (hQ _ _)) (zt_cj (hQ _ _))))))))))) (br_cj (br_cj (cj_v_11_isAsTold_262  hQ) (br_cj (zt_cj (hQ _ _)) (cj_v_11_isAsTold_262  hQ))) (br_cj (cj_v_7_right (fun _ _ => (cj_v_7_right (fun _ _ => (cj_v_7_right (fun _ _ => (sw_cj fun _ => (br_cj (zt_cj (hQ _ _)) (cj_v_11_isNameAt (fun _ _ => (br_cj (zt_cj (hQ _ _)) (cj_v_11_isTermAt (fun _ _ => (br_cj (zt_cj (hQ _ _)) (zt_cj (hQ _ _)))))))))))))))) (br_cj (br_cj (zt_cj (hQ _ _)) (cj_v_11_isNameAt (fun _ _ => (br_cj (zt_cj (hQ _ _)) (cj_v_11_isTermAt (fun _ _ => (br_cj (zt_cj (hQ _ _)) (zt_cj (hQ _ _))))))))) (br_cj (br_cj (zt_cj (hQ _ _)) (cj_v_11_isNameAt (fun _ _ => (br_cj (zt_cj (hQ _ _)) (zt_cj (hQ _ _)))))) (br_cj (br_cj (zt_cj (hQ _ _)) (cj_v_11_isNameAt (fun _ _ => (br_cj (zt_cj (hQ _ _)) (zt_cj (hQ _ _)))))) (br_cj (br_cj (zt_cj (hQ _ _)) (zt_cj (hQ _ _))) (zt_cj (hQ _ _)))))))))))
theorem mn_v_11_isAsTold_26 {Q1 Q2 : Int → iST → Prop}  {x1 : Int} {x2 : Int} {y0 : Int} {u : iST} (hQ : ∀ r0 r1, Q1 r0 r1 → Q2 r0 r1) : pv_11_isAsTold_26 Q1 x1 x2 y0 u → pv_11_isAsTold_26 Q2 x1 x2 y0 u := (br_mn (br_mn (zt_mn (hQ _ _)) (mn_v_11_isTermAt (fun _ _ => (br_mn (zt_mn (hQ _ _)) (rd_mn fun _ => (mn_v_10_hasVariablesOf (fun _ _ => (br_mn (zt_mn (hQ _ _)) (zt_mn (hQ _ _)))))))))) (br_mn (br_mn (zt_mn (hQ _ _)) (mn_v_11_isTermAt (fun _ _ => (br_mn (zt_mn (hQ _ _)) (zt_mn (hQ _ _)))))) (br_mn (mn_v_7_right (fun _ _ => (mn_v_7_right (fun _ _ => (sw_mn fun _ => (br_mn (zt_mn (hQ _ _)) (mn_v_11_isTermAt (fun _ _ => (br_mn (zt_mn (hQ _ _)) (zt_mn (hQ _ _))))))))))) (br_mn (br_mn (mn_v_11_isAsTold_262  hQ) (br_mn (zt_mn (hQ _ _)) (mn_v_11_isAsTold_262  hQ))) (br_mn (mn_v_7_right (fun _ _ => (mn_v_7_right (fun _ _ => (mn_v_7_right (fun _ _ => (sw_mn fun _ => (br_mn (zt_mn (hQ _ _)) (mn_v_11_isNameAt (fun _ _ => (br_mn (zt_mn (hQ _ _)) (mn_v_11_isTermAt (fun _ _ => (br_mn (zt_mn (hQ _ _)) (zt_mn (hQ _ _)))))))))))))))) (br_mn (br_mn (zt_mn (hQ _ _)) (mn_v_11_isNameAt (fun _ _ => (br_mn (zt_mn (hQ _ _)) (mn_v_11_isTermAt (fun _ _ => (br_mn (zt_mn (hQ _ _)) (zt_mn (hQ _ _))))))))) (br_mn (br_mn (zt_mn (hQ _ _)) (mn_v_11_isNameAt (fun _ _ => (br_mn (zt_mn (hQ _ _)) (zt_mn (hQ _ _)))))) (br_mn (br_mn (zt_mn (hQ _ _)) (mn_v_11_isNameAt (fun _ _ => (br_mn (zt_mn (hQ _ _)) (zt_mn (hQ _ _)))))) (br_mn (br_mn (zt_mn (hQ _ _)) (zt_mn (hQ _ _))) (zt_mn (hQ _ _)))))))))))
theorem wp_v_11_isAsTold_26 {Q1 Q2 : Int → iST → Prop}  {x1 : Int} {x2 : Int} {y0 : Int} {u : iST} (hQ : ∀ r0 r1, Q1 r0 r1 → Q2 r0 r1) : v_11_isAsTold_26 Q1 x1 x2 y0 u → pv_11_isAsTold_26 Q2 x1 x2 y0 u := (br_wp (br_wp (zt_wp (hQ _ _)) (wp_v_11_isTermAt (fun _ _ => (br_wp (zt_wp (hQ _ _)) (rd_wp fun _ => (wp_v_10_hasVariablesOf (fun _ _ => (br_wp (zt_wp (hQ _ _)) (zt_wp (hQ _ _)))))))))) (br_wp (br_wp (zt_wp (hQ _ _)) (wp_v_11_isTermAt (fun _ _ => (br_wp (zt_wp (hQ _ _)) (zt_wp (hQ _ _)))))) (br_wp (wp_v_7_right (fun _ _ => (wp_v_7_right (fun _ _ => (sw_wp fun _ => (br_wp (zt_wp (hQ _ _)) (wp_v_11_isTermAt (fun _ _ => (br_wp (zt_wp (hQ _ _)) (zt_wp (hQ _ _))))))))))) (br_wp (br_wp (wp_v_11_isAsTold_262  hQ) (br_wp (zt_wp (hQ _ _)) (wp_v_11_isAsTold_262  hQ))) (br_wp (wp_v_7_right (fun _ _ => (wp_v_7_right (fun _ _ => (wp_v_7_right (fun _ _ => (sw_wp fun _ => (br_wp (zt_wp (hQ _ _)) (wp_v_11_isNameAt (fun _ _ => (br_wp (zt_wp (hQ _ _)) (wp_v_11_isTermAt (fun _ _ => (br_wp (zt_wp (hQ _ _)) (zt_wp (hQ _ _)))))))))))))))) (br_wp (br_wp (zt_wp (hQ _ _)) (wp_v_11_isNameAt (fun _ _ => (br_wp (zt_wp (hQ _ _)) (wp_v_11_isTermAt (fun _ _ => (br_wp (zt_wp (hQ _ _)) (zt_wp (hQ _ _))))))))) (br_wp (br_wp (zt_wp (hQ _ _)) (wp_v_11_isNameAt (fun _ _ => (br_wp (zt_wp (hQ _ _)) (zt_wp (hQ _ _)))))) (br_wp (br_wp (zt_wp (hQ _ _)) (wp_v_11_isNameAt (fun _ _ => (br_wp (zt_wp (hQ _ _)) (zt_wp (hQ _ _)))))) (br_wp (br_wp (zt_wp (hQ _ _)) (zt_wp (hQ _ _))) (zt_wp (hQ _ _)))))))))))
def pv_11_isAsTold (a0 : Int) (Q : Int → iST → Prop) (u : iST) : Prop :=
  pv_7_lengthOf a0 (fun v1 u => 
  br (1 ≤ v1) (
    pv_7_left a0 (fun v2 u => 
    pv_11_isAsTold_26 Q a0 v1 v2 u) u) (
    pv_11_isAsTold_26 Q a0 v1 (-1) u)) u
theorem cj_v_11_isAsTold {Q1 Q2 Q3 : Int → iST → Prop}  {a0 : Int} {u : iST} (hQ : ∀ r0 r1, Q1 r0 r1 → Q2 r0 r1 → Q3 r0 r1) : v_11_isAsTold a0 Q1 u → pv_11_isAsTold a0 Q2 u → v_11_isAsTold a0 Q3 u := (cj_v_7_lengthOf (fun _ _ => (br_cj (cj_v_7_left (fun _ _ => (cj_v_11_isAsTold_26  hQ))) (cj_v_11_isAsTold_26  hQ))))
theorem mn_v_11_isAsTold {Q1 Q2 : Int → iST → Prop}  {a0 : Int} {u : iST} (hQ : ∀ r0 r1, Q1 r0 r1 → Q2 r0 r1) : pv_11_isAsTold a0 Q1 u → pv_11_isAsTold a0 Q2 u := (mn_v_7_lengthOf (fun _ _ => (br_mn (mn_v_7_left (fun _ _ => (mn_v_11_isAsTold_26  hQ))) (mn_v_11_isAsTold_26  hQ))))
theorem wp_v_11_isAsTold {Q1 Q2 : Int → iST → Prop}  {a0 : Int} {u : iST} (hQ : ∀ r0 r1, Q1 r0 r1 → Q2 r0 r1) : v_11_isAsTold a0 Q1 u → pv_11_isAsTold a0 Q2 u := (wp_v_7_lengthOf (fun _ _ => (br_wp (wp_v_7_left (fun _ _ => (wp_v_11_isAsTold_26  hQ))) (wp_v_11_isAsTold_26  hQ))))
def pv_11_nameAsked (a0 : Int) (Q : Int → iST → Prop) (u : iST) : Prop :=
  rd (u.1 44) (fun v1 => 
  pv_0_theoremOf v1 (fun v2 u => 
  pv_7_left a0 (fun v3 u => 
  br (v3 = 20) (
    rd (u.1 44) (fun v4 => 
    pv_0_functionOf v4 (fun v5 u => 
    br (v5 = (-1)) (
      rd (u.1 0) (fun v6 => 
      br (40 ≤ v6) (
        Q 8 u) (
        Q 0 u))) (
      Q 3 u)) u)) (
  br (v3 = 21) (
    br (v2 = (-1)) (
      rd (u.1 1) (fun v8 => 
      br (60 ≤ v8) (
        Q 8 u) (
        Q 0 u))) (
      Q 3 u)) (
  br (v3 = 22) (
    br (v2 = (-1)) (
      rd (u.1 1) (fun v10 => 
      br (60 ≤ v10) (
        Q 8 u) (
        Q 0 u))) (
      Q 3 u)) (
  br (v3 = 23) (
    br (v2 = (-1)) (
      Q 3 u) (
      bdp v2 60 (rd (u.2.1 7 v2) (fun v12 => 
      br (v12 = (-1)) (
        Q 3 u) (
        Q 0 u))))) (
  br (v3 = 24) (
    br (v2 = (-1)) (
      Q 3 u) (
      bdp v2 60 (rd (u.2.1 7 v2) (fun v14 => 
      br (v14 = (-1)) (
        Q 3 u) (
        Q 0 u))))) (
  br (v3 = 25) (
    rd (u.1 2) (fun v16 => 
    br (v16 ≤ 0) (
      Q 3 u) (
      Q 0 u))) (
  Q 0 u))))))) u) u)
theorem cj_v_11_nameAsked {Q1 Q2 Q3 : Int → iST → Prop}  {a0 : Int} {u : iST} (hQ : ∀ r0 r1, Q1 r0 r1 → Q2 r0 r1 → Q3 r0 r1) : v_11_nameAsked a0 Q1 u → pv_11_nameAsked a0 Q2 u → v_11_nameAsked a0 Q3 u := (rd_cj fun _ => (cj_v_0_theoremOf (fun _ _ => (cj_v_7_left (fun _ _ => (br_cj (rd_cj fun _ => (cj_v_0_functionOf (fun _ _ => (br_cj (rd_cj fun _ => (br_cj (hQ _ _) (hQ _ _))) (hQ _ _))))) (br_cj (br_cj (rd_cj fun _ => (br_cj (hQ _ _) (hQ _ _))) (hQ _ _)) (br_cj (br_cj (rd_cj fun _ => (br_cj (hQ _ _) (hQ _ _))) (hQ _ _)) (br_cj (br_cj (hQ _ _) (bd_cj (rd_cj fun _ => (br_cj (hQ _ _) (hQ _ _))))) (br_cj (br_cj (hQ _ _) (bd_cj (rd_cj fun _ => (br_cj (hQ _ _) (hQ _ _))))) (br_cj (rd_cj fun _ => (br_cj (hQ _ _) (hQ _ _))) (hQ _ _))))))))))))
theorem mn_v_11_nameAsked {Q1 Q2 : Int → iST → Prop}  {a0 : Int} {u : iST} (hQ : ∀ r0 r1, Q1 r0 r1 → Q2 r0 r1) : pv_11_nameAsked a0 Q1 u → pv_11_nameAsked a0 Q2 u := (rd_mn fun _ => (mn_v_0_theoremOf (fun _ _ => (mn_v_7_left (fun _ _ => (br_mn (rd_mn fun _ => (mn_v_0_functionOf (fun _ _ => (br_mn (rd_mn fun _ => (br_mn (hQ _ _) (hQ _ _))) (hQ _ _))))) (br_mn (br_mn (rd_mn fun _ => (br_mn (hQ _ _) (hQ _ _))) (hQ _ _)) (br_mn (br_mn (rd_mn fun _ => (br_mn (hQ _ _) (hQ _ _))) (hQ _ _)) (br_mn (br_mn (hQ _ _) (bd_mn (rd_mn fun _ => (br_mn (hQ _ _) (hQ _ _))))) (br_mn (br_mn (hQ _ _) (bd_mn (rd_mn fun _ => (br_mn (hQ _ _) (hQ _ _))))) (br_mn (rd_mn fun _ => (br_mn (hQ _ _) (hQ _ _))) (hQ _ _))))))))))))
theorem wp_v_11_nameAsked {Q1 Q2 : Int → iST → Prop}  {a0 : Int} {u : iST} (hQ : ∀ r0 r1, Q1 r0 r1 → Q2 r0 r1) : v_11_nameAsked a0 Q1 u → pv_11_nameAsked a0 Q2 u := (rd_wp fun _ => (wp_v_0_theoremOf (fun _ _ => (wp_v_7_left (fun _ _ => (br_wp (rd_wp fun _ => (wp_v_0_functionOf (fun _ _ => (br_wp (rd_wp fun _ => (br_wp (hQ _ _) (hQ _ _))) (hQ _ _))))) (br_wp (br_wp (rd_wp fun _ => (br_wp (hQ _ _) (hQ _ _))) (hQ _ _)) (br_wp (br_wp (rd_wp fun _ => (br_wp (hQ _ _) (hQ _ _))) (hQ _ _)) (br_wp (br_wp (hQ _ _) (bd_wp (rd_wp fun _ => (br_wp (hQ _ _) (hQ _ _))))) (br_wp (br_wp (hQ _ _) (bd_wp (rd_wp fun _ => (br_wp (hQ _ _) (hQ _ _))))) (br_wp (rd_wp fun _ => (br_wp (hQ _ _) (hQ _ _))) (hQ _ _))))))))))))
def pv_11_asked (a0 : Int) (Q : Int → iST → Prop) (u : iST) : Prop :=
  pv_11_isAsTold a0 (fun v1 u => 
  br (v1 ≠ 0) (
    rd (u.1 47) (fun v2 => 
    pv_8_hintsAsked v2 (fun v3 u => 
    br (v3 ≠ 0) (
      Q v3 u) (
      pv_11_nameAsked a0 (fun v4 u => 
      Q v4 u) u)) u)) (
    Q 2 u)) u
theorem cj_v_11_asked {Q1 Q2 Q3 : Int → iST → Prop}  {a0 : Int} {u : iST} (hQ : ∀ r0 r1, Q1 r0 r1 → Q2 r0 r1 → Q3 r0 r1) : v_11_asked a0 Q1 u → pv_11_asked a0 Q2 u → v_11_asked a0 Q3 u := (cj_v_11_isAsTold (fun _ _ => (br_cj (rd_cj fun _ => (cj_v_8_hintsAsked (fun _ _ => (br_cj (hQ _ _) (cj_v_11_nameAsked (fun _ _ => (hQ _ _))))))) (hQ _ _))))
theorem mn_v_11_asked {Q1 Q2 : Int → iST → Prop}  {a0 : Int} {u : iST} (hQ : ∀ r0 r1, Q1 r0 r1 → Q2 r0 r1) : pv_11_asked a0 Q1 u → pv_11_asked a0 Q2 u := (mn_v_11_isAsTold (fun _ _ => (br_mn (rd_mn fun _ => (mn_v_8_hintsAsked (fun _ _ => (br_mn (hQ _ _) (mn_v_11_nameAsked (fun _ _ => (hQ _ _))))))) (hQ _ _))))
theorem wp_v_11_asked {Q1 Q2 : Int → iST → Prop}  {a0 : Int} {u : iST} (hQ : ∀ r0 r1, Q1 r0 r1 → Q2 r0 r1) : v_11_asked a0 Q1 u → pv_11_asked a0 Q2 u := (wp_v_11_isAsTold (fun _ _ => (br_wp (rd_wp fun _ => (wp_v_8_hintsAsked (fun _ _ => (br_wp (hQ _ _) (wp_v_11_nameAsked (fun _ _ => (hQ _ _))))))) (hQ _ _))))
def pv_11_showValue (a0 : Int) (Q : iST → Prop) (u : iST) : Prop :=
  br (a0 ≠ (-1)) (
    pv_9_write 0 a0 (fun u => 
    Q u) u) (
    rd (u.1 9) (fun v2 => 
    pv_7_blame v2 (fun u => 
    Q u) u))
theorem cj_v_11_showValue {Q1 Q2 Q3 : iST → Prop}  {a0 : Int} {u : iST} (hQ : ∀ r0, Q1 r0 → Q2 r0 → Q3 r0) : v_11_showValue a0 Q1 u → pv_11_showValue a0 Q2 u → v_11_showValue a0 Q3 u := (br_cj (cj_v_9_write (fun _ => (hQ _))) (rd_cj fun _ => (cj_v_7_blame (fun _ => (hQ _)))))
theorem mn_v_11_showValue {Q1 Q2 : iST → Prop}  {a0 : Int} {u : iST} (hQ : ∀ r0, Q1 r0 → Q2 r0) : pv_11_showValue a0 Q1 u → pv_11_showValue a0 Q2 u := (br_mn (mn_v_9_write (fun _ => (hQ _))) (rd_mn fun _ => (mn_v_7_blame (fun _ => (hQ _)))))
theorem wp_v_11_showValue {Q1 Q2 : iST → Prop}  {a0 : Int} {u : iST} (hQ : ∀ r0, Q1 r0 → Q2 r0) : v_11_showValue a0 Q1 u → pv_11_showValue a0 Q2 u := (br_wp (wp_v_9_write (fun _ => (hQ _))) (rd_wp fun _ => (wp_v_7_blame (fun _ => (hQ _)))))
def pv_11_showTerm (a0 : Int) (Q : iST → Prop) (u : iST) : Prop :=
  br (a0 = (-1)) (
    Q u) (
    pv_9_write 0 a0 (fun u => 
    Q u) u)
theorem cj_v_11_showTerm {Q1 Q2 Q3 : iST → Prop}  {a0 : Int} {u : iST} (hQ : ∀ r0, Q1 r0 → Q2 r0 → Q3 r0) : v_11_showTerm a0 Q1 u → pv_11_showTerm a0 Q2 u → v_11_showTerm a0 Q3 u := (br_cj (hQ _) (cj_v_9_write (fun _ => (hQ _))))
theorem mn_v_11_showTerm {Q1 Q2 : iST → Prop}  {a0 : Int} {u : iST} (hQ : ∀ r0, Q1 r0 → Q2 r0) : pv_11_showTerm a0 Q1 u → pv_11_showTerm a0 Q2 u := (br_mn (hQ _) (mn_v_9_write (fun _ => (hQ _))))
theorem wp_v_11_showTerm {Q1 Q2 : iST → Prop}  {a0 : Int} {u : iST} (hQ : ∀ r0, Q1 r0 → Q2 r0) : v_11_showTerm a0 Q1 u → pv_11_showTerm a0 Q2 u := (br_wp (hQ _) (wp_v_9_write (fun _ => (hQ _))))
def pv_11_prepare (a0 : Int) (Q : iST → Prop) (u : iST) : Prop :=
  rd (u.1 44) (fun v1 => 
  pv_0_theoremOf v1 (fun v2 u => 
  pv_6_begin (fun u => 
  pv_7_left a0 (fun v4 u => 
  br (v4 = 17) (
    rd (u.1 45) (fun v5 => 
    pv_2_evaluated v5 1000000 (fun v6 u => 
    pv_11_showValue v6 (fun u => 
    Q u) u) u)) (
  br (v4 = 18) (
    rd (u.1 45) (fun v9 => 
    pv_6_rewritten v9 0 0 (fun v10 u => 
    pv_11_showTerm v10 (fun u => 
    Q u) u) u)) (
  br (v4 = 19) (
    rd (u.1 47) (fun v13 => 
    pv_8_mute v13 (fun u => 
    rd (u.1 45) (fun v15 => 
    rd (u.1 47) (fun v16 => 
    pv_8_addTheoremClauses v15 v16 (fun u => 
    Q u) u))) u)) (
  br (v4 = 20) (
    rd (u.1 46) (fun v19 => 
    br (v19 = (-1)) (
      Q u) (
      rd (u.1 44) (fun v20 => 
      pv_7_item a0 2 (fun v21 u => 
      rd (u.1 45) (fun v22 => 
      rd (u.1 46) (fun v23 => 
      pv_8_addMeasureClauses v20 v21 v22 v23 (fun u => 
      Q u) u))) u)))) (
  br (v4 = 21) (
    rd (u.1 47) (fun v26 => 
    pv_8_mute v26 (fun u => 
    rd (u.1 45) (fun v28 => 
    rd (u.1 47) (fun v29 => 
    pv_8_addTheoremClauses v28 v29 (fun u => 
    Q u) u))) u)) (
  br (v4 = 22) (
    Q u) (
  br (v4 = 23) (
    br (v2 = (-1)) (
      Q u) (
      pv_7_left a0 (fun v33 u => 
      br (v33 ≠ 23) (
        ztp 0 (bdp v2 60 (sw (iA u 12 v2 0) (fun u => 
        Q u)))) (
        ztp 1 (bdp v2 60 (sw (iA u 12 v2 1) (fun u => 
        Q u))))) u)) (
  br (v4 = 24) (
    br (v2 = (-1)) (
      Q u) (
      pv_7_left a0 (fun v35 u => 
      br (v35 ≠ 23) (
        ztp 0 (bdp v2 60 (sw (iA u 12 v2 0) (fun u => 
        Q u)))) (
        ztp 1 (bdp v2 60 (sw (iA u 12 v2 1) (fun u => 
        Q u))))) u)) (
  br (v4 = 25) (
    pv_0_takeBack (fun u => 
    Q u) u) (
  Q u)))))))))) u) u) u)
theorem cj_v_11_prepare {Q1 Q2 Q3 : iST → Prop}  {a0 : Int} {u : iST} (hQ : ∀ r0, Q1 r0 → Q2 r0 → Q3 r0) : v_11_prepare a0 Q1 u → pv_11_prepare a0 Q2 u → v_11_prepare a0 Q3 u := (rd_cj fun _ => (cj_v_0_theoremOf (fun _ _ => (cj_v_6_begin (fun _ => (cj_v_7_left (fun _ _ => (br_cj (rd_cj fun _ => (cj_v_2_evaluated (fun _ _ => (cj_v_11_showValue (fun _ => (hQ _)))))) (br_cj (rd_cj fun _ => (cj_v_6_rewritten (fun _ _ => (cj_v_11_showTerm (fun _ => (hQ _)))))) (br_cj (rd_cj fun _ => (cj_v_8_mute (fun _ => (rd_cj fun _ => (rd_cj fun _ => (cj_v_8_addTheoremClauses (fun _ => (hQ _)))))))) (br_cj (rd_cj fun _ => (br_cj (hQ _) (rd_cj fun _ => (cj_v_7_item (fun _ _ => (rd_cj fun _ => (rd_cj fun _ => (cj_v_8_addMeasureClauses (fun _ => (hQ _)))))))))) (br_cj (rd_cj fun _ => (cj_v_8_mute (fun _ => (rd_cj fun _ => (rd_cj fun _ => (cj_v_8_addTheoremClauses (fun _ => (hQ _)))))))) (br_cj (hQ _) (br_cj (br_cj (hQ _) (cj_v_7_left (fun _ _ => (br_cj (zt_cj (bd_cj (sw_cj fun _ => (hQ _)))) (zt_cj (bd_cj (sw_cj fun _ => (hQ _)))))))) (br_cj (br_cj (hQ _) (cj_v_7_left (fun _ _ => (br_cj (zt_cj (bd_cj (sw_cj fun _ => (hQ _)))) (zt_cj (bd_cj (sw_cj fun _ => (hQ _)))))))) (br_cj (cj_v_0_takeBack (fun _ => (hQ _))) (hQ _)))))))))))))))))
theorem mn_v_11_prepare {Q1 Q2 : iST → Prop}  {a0 : Int} {u : iST} (hQ : ∀ r0, Q1 r0 → Q2 r0) : pv_11_prepare a0 Q1 u → pv_11_prepare a0 Q2 u := (rd_mn fun _ => (mn_v_0_theoremOf (fun _ _ => (mn_v_6_begin (fun _ => (mn_v_7_left (fun _ _ => (br_mn (rd_mn fun _ => (mn_v_2_evaluated (fun _ _ => (mn_v_11_showValue (fun _ => (hQ _)))))) (br_mn (rd_mn fun _ => (mn_v_6_rewritten (fun _ _ => (mn_v_11_showTerm (fun _ => (hQ _)))))) (br_mn (rd_mn fun _ => (mn_v_8_mute (fun _ => (rd_mn fun _ => (rd_mn fun _ => (mn_v_8_addTheoremClauses (fun _ => (hQ _)))))))) (br_mn (rd_mn fun _ => (br_mn (hQ _) (rd_mn fun _ => (mn_v_7_item (fun _ _ => (rd_mn fun _ => (rd_mn fun _ => (mn_v_8_addMeasureClauses (fun _ => (hQ _)))))))))) (br_mn (rd_mn fun _ => (mn_v_8_mute (fun _ => (rd_mn fun _ => (rd_mn fun _ => (mn_v_8_addTheoremClauses (fun _ => (hQ _)))))))) (br_mn (hQ _) (br_mn (br_mn (hQ _) (mn_v_7_left (fun _ _ => (br_mn (zt_mn (bd_mn (sw_mn fun _ => (hQ _)))) (zt_mn (bd_mn (sw_mn fun _ => (hQ _)))))))) (br_mn (br_mn (hQ _) (mn_v_7_left (fun _ _ => (br_mn (zt_mn (bd_mn (sw_mn fun _ => (hQ _)))) (zt_mn (bd_mn (sw_mn fun _ => (hQ _)))))))) (br_mn (mn_v_0_takeBack (fun _ => (hQ _))) (hQ _)))))))))))))))))
theorem wp_v_11_prepare {Q1 Q2 : iST → Prop}  {a0 : Int} {u : iST} (hQ : ∀ r0, Q1 r0 → Q2 r0) : v_11_prepare a0 Q1 u → pv_11_prepare a0 Q2 u := (rd_wp fun _ => (wp_v_0_theoremOf (fun _ _ => (wp_v_6_begin (fun _ => (wp_v_7_left (fun _ _ => (br_wp (rd_wp fun _ => (wp_v_2_evaluated (fun _ _ => (wp_v_11_showValue (fun _ => (hQ _)))))) (br_wp (rd_wp fun _ => (wp_v_6_rewritten (fun _ _ => (wp_v_11_showTerm (fun _ => (hQ _)))))) (br_wp (rd_wp fun _ => (wp_v_8_mute (fun _ => (rd_wp fun _ => (rd_wp fun _ => (wp_v_8_addTheoremClauses (fun _ => (hQ _)))))))) (br_wp (rd_wp fun _ => (br_wp (hQ _) (rd_wp fun _ => (wp_v_7_item (fun _ _ => (rd_wp fun _ => (rd_wp fun _ => (wp_v_8_addMeasureClauses (fun _ => (hQ _)))))))))) (br_wp (rd_wp fun _ => (wp_v_8_mute (fun _ => (rd_wp fun _ => (rd_wp fun _ => (wp_v_8_addTheoremClauses (fun _ => (hQ _)))))))) (br_wp (hQ _) (br_wp (br_wp (hQ _) (wp_v_7_left (fun _ _ => (br_wp (zt_wp (bd_wp (sw_wp fun _ => (hQ _)))) (zt_wp (bd_wp (sw_wp fun _ => (hQ _)))))))) (br_wp (br_wp (hQ _) (wp_v_7_left (fun _ _ => (br_wp (zt_wp (bd_wp (sw_wp fun _ => (hQ _)))) (zt_wp (bd_wp (sw_wp fun _ => (hQ _)))))))) (br_wp (wp_v_0_takeBack (fun _ => (hQ _))) (hQ _)))))))))))))))))
def pv_11_shownWrong_14b (R14 : Int → Int → Int → iST → Prop) (Q : Int → iST → Prop) (x1 : Int) (x2 : Int) (x3 : Int) (u : iST) : Prop :=
  rd (u.2.1 46 x1) (fun v2 => 
  br (v2 ≤ x3) (
    rd (u.1 12) (fun v3 => 
    br (v3 = (-1)) (
      br (x2 ≤ 0) (
        Q (-1) u) (
        pv_4_listOf x1 (fun v4 u => 
        Q v4 u) u)) (
      rd (u.1 12) (fun v5 => 
      Q v5 u)))) (
    bdp x3 30 (rd (u.2.1 49 (30 * x1 + x3)) (fun v6 => 
    rd (u.1 45) (fun v7 => 
    br (v6 ≠ v7) (
      ovp (x2 + 1) (
      ovp (x3 + 1) (
      R14 x1 (x2 + 1) (x3 + 1) u))) (
      ovp (x2 + 0) (
      ovp (x3 + 1) (
      R14 x1 (x2 + 0) (x3 + 1) u))))))))
theorem cj_v_11_shownWrong_14b {Q1 Q2 Q3 : Int → iST → Prop} {R141 R142 R143 : Int → Int → Int → iST → Prop} {x1 : Int} {x2 : Int} {x3 : Int} {u : iST} (hR14 : ∀ r0 r1 r2 r3, R141 r0 r1 r2 r3 → R142 r0 r1 r2 r3 → R143 r0 r1 r2 r3) (hQ : ∀ r0 r1, Q1 r0 r1 → Q2 r0 r1 → Q3 r0 r1) : v_11_shownWrong_14b R141 Q1 x1 x2 x3 u → pv_11_shownWrong_14b R142 Q2 x1 x2 x3 u → v_11_shownWrong_14b R143 Q3 x1 x2 x3 u := (rd_cj fun _ => (br_cj (rd_cj fun _ => (br_cj (br_cj (hQ _ _) (cj_v_4_listOf (fun _ _ => (hQ _ _)))) (rd_cj fun _ => (hQ _ _)))) (bd_cj (rd_cj fun _ => (rd_cj fun _ => (br_cj (ov_cj (ov_cj (hR14 _ _ _ _))) (ov_cj (ov_cj (hR14 _ _ _ _)))))))))
theorem mn_v_11_shownWrong_14b {Q1 Q2 : Int → iST → Prop} {R141 R142 : Int → Int → Int → iST → Prop} {x1 : Int} {x2 : Int} {x3 : Int} {u : iST} (hR14 : ∀ r0 r1 r2 r3, R141 r0 r1 r2 r3 → R142 r0 r1 r2 r3) (hQ : ∀ r0 r1, Q1 r0 r1 → Q2 r0 r1) : pv_11_shownWrong_14b R141 Q1 x1 x2 x3 u → pv_11_shownWrong_14b R142 Q2 x1 x2 x3 u := (rd_mn fun _ => (br_mn (rd_mn fun _ => (br_mn (br_mn (hQ _ _) (mn_v_4_listOf (fun _ _ => (hQ _ _)))) (rd_mn fun _ => (hQ _ _)))) (bd_mn (rd_mn fun _ => (rd_mn fun _ => (br_mn (ov_mn (ov_mn (hR14 _ _ _ _))) (ov_mn (ov_mn (hR14 _ _ _ _)))))))))
theorem wp_v_11_shownWrong_14b {Q1 Q2 : Int → iST → Prop} {R141 R142 : Int → Int → Int → iST → Prop} {x1 : Int} {x2 : Int} {x3 : Int} {u : iST} (hR14 : ∀ r0 r1 r2 r3, R141 r0 r1 r2 r3 → R142 r0 r1 r2 r3) (hQ : ∀ r0 r1, Q1 r0 r1 → Q2 r0 r1) : v_11_shownWrong_14b R141 Q1 x1 x2 x3 u → pv_11_shownWrong_14b R142 Q2 x1 x2 x3 u := (rd_wp fun _ => (br_wp (rd_wp fun _ => (br_wp (br_wp (hQ _ _) (wp_v_4_listOf (fun _ _ => (hQ _ _)))) (rd_wp fun _ => (hQ _ _)))) (bd_wp (rd_wp fun _ => (rd_wp fun _ => (br_wp (ov_wp (ov_wp (hR14 _ _ _ _))) (ov_wp (ov_wp (hR14 _ _ _ _)))))))))
def pv_11_shownWrong_14 (Q : Int → iST → Prop) (x1 : Int) (x2 : Int) (x3 : Int) (u : iST) : Prop := ∃ R14 : Int → Int → Int → iST → Prop, (∀ (x1 : Int) (x2 : Int) (x3 : Int) (u : iST), R14 x1 x2 x3 u → pv_11_shownWrong_14b R14 Q x1 x2 x3 u) ∧ R14 x1 x2 x3 u
theorem cj_v_11_shownWrong_14 {Q1 Q2 Q3 : Int → iST → Prop}  {x1 : Int} {x2 : Int} {x3 : Int} {u : iST} (hQ : ∀ r0 r1, Q1 r0 r1 → Q2 r0 r1 → Q3 r0 r1) : v_11_shownWrong_14 Q1 x1 x2 x3 u → pv_11_shownWrong_14 Q2 x1 x2 x3 u → v_11_shownWrong_14 Q3 x1 x2 x3 u := by
  intro a b R3 c3
  obtain ⟨R2, c2, b2⟩ := b
  exact a (fun r0 r1 r2 r3 => R2 r0 r1 r2 r3 → R3 r0 r1 r2 r3) (fun r0 r1 r2 r3 a b => c3 r0 r1 r2 r3 (cj_v_11_shownWrong_14b (fun r0 r1 r2 r3 a b => a b) hQ a (c2 r0 r1 r2 r3 b))) b2
theorem pv_11_shownWrong_14_i  {Q : Int → iST → Prop} {x1 : Int} {x2 : Int} {x3 : Int} {u : iST} (I : Int → Int → Int → iST → Prop) (s : ∀ (x1 : Int) (x2 : Int) (x3 : Int) (u : iST), I x1 x2 x3 u → pv_11_shownWrong_14b I Q x1 x2 x3 u) (h : I x1 x2 x3 u) : pv_11_shownWrong_14 Q x1 x2 x3 u := ⟨I, s, h⟩
theorem mn_v_11_shownWrong_14 {Q1 Q2 : Int → iST → Prop}  {x1 : Int} {x2 : Int} {x3 : Int} {u : iST} (hQ : ∀ r0 r1, Q1 r0 r1 → Q2 r0 r1) : pv_11_shownWrong_14 Q1 x1 x2 x3 u → pv_11_shownWrong_14 Q2 x1 x2 x3 u := fun ⟨R, s, h⟩ => ⟨R, fun r0 r1 r2 r3 a => mn_v_11_shownWrong_14b (fun r0 r1 r2 r3 a => a) hQ (s r0 r1 r2 r3 a), h⟩
theorem un_v_11_shownWrong_14  {Q : Int → iST → Prop} {x1 : Int} {x2 : Int} {x3 : Int} {u : iST} : pv_11_shownWrong_14 Q x1 x2 x3 u → pv_11_shownWrong_14b (fun x1 x2 x3 u => pv_11_shownWrong_14 Q x1 x2 x3 u) Q x1 x2 x3 u := fun ⟨R, s, h⟩ => mn_v_11_shownWrong_14b (fun r0 r1 r2 r3 a => ⟨R, s, a⟩) (fun _ _ h => h) (s _ _ _ _ h)
theorem fo_v_11_shownWrong_14  {Q : Int → iST → Prop} {x1 : Int} {x2 : Int} {x3 : Int} {u : iST} : pv_11_shownWrong_14b (fun x1 x2 x3 u => pv_11_shownWrong_14 Q x1 x2 x3 u) Q x1 x2 x3 u → pv_11_shownWrong_14 Q x1 x2 x3 u := fun h => ⟨fun x1 x2 x3 u => pv_11_shownWrong_14b (fun x1 x2 x3 u => pv_11_shownWrong_14 Q x1 x2 x3 u) Q x1 x2 x3 u, fun r0 r1 r2 r3 a => mn_v_11_shownWrong_14b (fun r0 r1 r2 r3 a => un_v_11_shownWrong_14 a) (fun _ _ h => h) a, h⟩
theorem wp_v_11_shownWrong_14 {Q1 Q2 : Int → iST → Prop}  {x1 : Int} {x2 : Int} {x3 : Int} {u : iST} (hQ : ∀ r0 r1, Q1 r0 r1 → Q2 r0 r1) : v_11_shownWrong_14 Q1 x1 x2 x3 u → pv_11_shownWrong_14 Q2 x1 x2 x3 u := fun a => a (fun x1 x2 x3 u => pv_11_shownWrong_14 Q2 x1 x2 x3 u) (fun x1 x2 x3 u b => fo_v_11_shownWrong_14 (wp_v_11_shownWrong_14b (fun r0 r1 r2 r3 a => a) hQ b))
def pv_11_shownWrong (Q : Int → iST → Prop) (u : iST) : Prop :=
  bdp 0 256 (rc (u.2.1 57 0) (fun v1 => 
  pv_11_shownWrong_14 Q v1 0 0 u))
theorem cj_v_11_shownWrong {Q1 Q2 Q3 : Int → iST → Prop}  {u : iST} (hQ : ∀ r0 r1, Q1 r0 r1 → Q2 r0 r1 → Q3 r0 r1) : v_11_shownWrong Q1 u → pv_11_shownWrong Q2 u → v_11_shownWrong Q3 u := (bd_cj (rc_cj fun _ => (cj_v_11_shownWrong_14  hQ)))
theorem mn_v_11_shownWrong {Q1 Q2 : Int → iST → Prop}  {u : iST} (hQ : ∀ r0 r1, Q1 r0 r1 → Q2 r0 r1) : pv_11_shownWrong Q1 u → pv_11_shownWrong Q2 u := (bd_mn (rc_mn fun _ => (mn_v_11_shownWrong_14  hQ)))
theorem wp_v_11_shownWrong {Q1 Q2 : Int → iST → Prop}  {u : iST} (hQ : ∀ r0 r1, Q1 r0 r1 → Q2 r0 r1) : v_11_shownWrong Q1 u → pv_11_shownWrong Q2 u := (bd_wp (rc_wp fun _ => (wp_v_11_shownWrong_14  hQ)))
def pv_11_conclude_227 (Q : Int → iST → Prop) (x2 : Int) (y1 : Int) (u : iST) : Prop :=
  pv_0_enter y1 x2 (fun u => 
  Q 0 u) u
theorem cj_v_11_conclude_227 {Q1 Q2 Q3 : Int → iST → Prop}  {x2 : Int} {y1 : Int} {u : iST} (hQ : ∀ r0 r1, Q1 r0 r1 → Q2 r0 r1 → Q3 r0 r1) : v_11_conclude_227 Q1 x2 y1 u → pv_11_conclude_227 Q2 x2 y1 u → v_11_conclude_227 Q3 x2 y1 u := (cj_v_0_enter (fun _ => (hQ _ _)))
theorem mn_v_11_conclude_227 {Q1 Q2 : Int → iST → Prop}  {x2 : Int} {y1 : Int} {u : iST} (hQ : ∀ r0 r1, Q1 r0 r1 → Q2 r0 r1) : pv_11_conclude_227 Q1 x2 y1 u → pv_11_conclude_227 Q2 x2 y1 u := (mn_v_0_enter (fun _ => (hQ _ _)))
theorem wp_v_11_conclude_227 {Q1 Q2 : Int → iST → Prop}  {x2 : Int} {y1 : Int} {u : iST} (hQ : ∀ r0 r1, Q1 r0 r1 → Q2 r0 r1) : v_11_conclude_227 Q1 x2 y1 u → pv_11_conclude_227 Q2 x2 y1 u := (wp_v_0_enter (fun _ => (hQ _ _)))
def pv_11_conclude_190 (Q : Int → iST → Prop) (x2 : Int) (x3 : Int) (u : iST) : Prop :=
  rd (u.1 44) (fun v5 => 
  rd (u.1 45) (fun v6 => 
  pv_0_addTheorem v5 v6 (fun u => 
  pv_6_learn (fun u => 
  br (x3 ≠ 22) (
    pv_11_conclude_227 Q x2 2 u) (
    pv_11_conclude_227 Q x2 3 u)) u) u))
theorem cj_v_11_conclude_190 {Q1 Q2 Q3 : Int → iST → Prop}  {x2 : Int} {x3 : Int} {u : iST} (hQ : ∀ r0 r1, Q1 r0 r1 → Q2 r0 r1 → Q3 r0 r1) : v_11_conclude_190 Q1 x2 x3 u → pv_11_conclude_190 Q2 x2 x3 u → v_11_conclude_190 Q3 x2 x3 u := (rd_cj fun _ => (rd_cj fun _ => (cj_v_0_addTheorem (fun _ => (cj_v_6_learn (fun _ => (br_cj (cj_v_11_conclude_227  hQ) (cj_v_11_conclude_227  hQ))))))))
theorem mn_v_11_conclude_190 {Q1 Q2 : Int → iST → Prop}  {x2 : Int} {x3 : Int} {u : iST} (hQ : ∀ r0 r1, Q1 r0 r1 → Q2 r0 r1) : pv_11_conclude_190 Q1 x2 x3 u → pv_11_conclude_190 Q2 x2 x3 u := (rd_mn fun _ => (rd_mn fun _ => (mn_v_0_addTheorem (fun _ => (mn_v_6_learn (fun _ => (br_mn (mn_v_11_conclude_227  hQ) (mn_v_11_conclude_227  hQ))))))))
theorem wp_v_11_conclude_190 {Q1 Q2 : Int → iST → Prop}  {x2 : Int} {x3 : Int} {u : iST} (hQ : ∀ r0 r1, Q1 r0 r1 → Q2 r0 r1) : v_11_conclude_190 Q1 x2 x3 u → pv_11_conclude_190 Q2 x2 x3 u := (rd_wp fun _ => (rd_wp fun _ => (wp_v_0_addTheorem (fun _ => (wp_v_6_learn (fun _ => (br_wp (wp_v_11_conclude_227  hQ) (wp_v_11_conclude_227  hQ))))))))
def pv_11_conclude_119 (Q : Int → iST → Prop) (x1 : Int) (x2 : Int) (x3 : Int) (u : iST) : Prop :=
  br (x3 ≠ 20) (
    br (x3 = 21) (
      pv_11_conclude_190 Q x2 x3 u) (
      br (x3 ≠ 22) (
        Q 0 u) (
        pv_11_conclude_190 Q x2 x3 u))) (
    pv_7_item x1 2 (fun v10 u => 
    rd (u.1 44) (fun v11 => 
    pv_7_lengthOf v10 (fun v12 u => 
    rd (u.1 45) (fun v13 => 
    rd (u.1 46) (fun v14 => 
    pv_0_addFunction v11 v10 v12 v13 v14 (fun u => 
    pv_0_enter 1 x2 (fun u => 
    Q 0 u) u) u))) u)) u)
theorem cj_v_11_conclude_119 {Q1 Q2 Q3 : Int → iST → Prop}  {x1 : Int} {x2 : Int} {x3 : Int} {u : iST} (hQ : ∀ r0 r1, Q1 r0 r1 → Q2 r0 r1 → Q3 r0 r1) : v_11_conclude_119 Q1 x1 x2 x3 u → pv_11_conclude_119 Q2 x1 x2 x3 u → v_11_conclude_119 Q3 x1 x2 x3 u := (br_cj (br_cj (cj_v_11_conclude_190  hQ) (br_cj (hQ _ _) (cj_v_11_conclude_190  hQ))) (cj_v_7_item (fun _ _ => (rd_cj fun _ => (cj_v_7_lengthOf (fun _ _ => (rd_cj fun _ => (rd_cj fun _ => (cj_v_0_addFunction (fun _ => (cj_v_0_enter (fun _ => (hQ _ _)))))))))))))
theorem mn_v_11_conclude_119 {Q1 Q2 : Int → iST → Prop}  {x1 : Int} {x2 : Int} {x3 : Int} {u : iST} (hQ : ∀ r0 r1, Q1 r0 r1 → Q2 r0 r1) : pv_11_conclude_119 Q1 x1 x2 x3 u → pv_11_conclude_119 Q2 x1 x2 x3 u := (br_mn (br_mn (mn_v_11_conclude_190  hQ) (br_mn (hQ _ _) (mn_v_11_conclude_190  hQ))) (mn_v_7_item (fun _ _ => (rd_mn fun _ => (mn_v_7_lengthOf (fun _ _ => (rd_mn fun _ => (rd_mn fun _ => (mn_v_0_addFunction (fun _ => (mn_v_0_enter (fun _ => (hQ _ _)))))))))))))
theorem wp_v_11_conclude_119 {Q1 Q2 : Int → iST → Prop}  {x1 : Int} {x2 : Int} {x3 : Int} {u : iST} (hQ : ∀ r0 r1, Q1 r0 r1 → Q2 r0 r1) : v_11_conclude_119 Q1 x1 x2 x3 u → pv_11_conclude_119 Q2 x1 x2 x3 u := (br_wp (br_wp (wp_v_11_conclude_190  hQ) (br_wp (hQ _ _) (wp_v_11_conclude_190  hQ))) (wp_v_7_item (fun _ _ => (rd_wp fun _ => (wp_v_7_lengthOf (fun _ _ => (rd_wp fun _ => (rd_wp fun _ => (wp_v_0_addFunction (fun _ => (wp_v_0_enter (fun _ => (hQ _ _)))))))))))))
def pv_11_conclude_88 (Q : Int → iST → Prop) (x1 : Int) (x2 : Int) (x3 : Int) (y1 : Int) (u : iST) : Prop :=
  ztp y1 (sw (iI u 50 y1) (fun u => 
  br (x3 ≠ 22) (
    pv_11_conclude_119 Q x1 x2 x3 u) (
    pv_11_shownWrong (fun v17 u => 
    br (v17 = (-1)) (
      pv_11_conclude_119 Q x1 x2 x3 u) (
      pv_11_shownWrong (fun v18 u => 
      pv_9_write 0 v18 (fun u => 
      Q 7 u) u) u)) u)))
theorem cj_v_11_conclude_88 {Q1 Q2 Q3 : Int → iST → Prop}  {x1 : Int} {x2 : Int} {x3 : Int} {y1 : Int} {u : iST} (hQ : ∀ r0 r1, Q1 r0 r1 → Q2 r0 r1 → Q3 r0 r1) : v_11_conclude_88 Q1 x1 x2 x3 y1 u → pv_11_conclude_88 Q2 x1 x2 x3 y1 u → v_11_conclude_88 Q3 x1 x2 x3 y1 u := (zt_cj (sw_cj fun _ => (br_cj (cj_v_11_conclude_119  hQ) (cj_v_11_shownWrong (fun _ _ => (br_cj (cj_v_11_conclude_119  hQ) (cj_v_11_shownWrong (fun _ _ => (cj_v_9_write (fun _ => (hQ _ _)))))))))))
theorem mn_v_11_conclude_88 {Q1 Q2 : Int → iST → Prop}  {x1 : Int} {x2 : Int} {x3 : Int} {y1 : Int} {u : iST} (hQ : ∀ r0 r1, Q1 r0 r1 → Q2 r0 r1) : pv_11_conclude_88 Q1 x1 x2 x3 y1 u → pv_11_conclude_88 Q2 x1 x2 x3 y1 u := (zt_mn (sw_mn fun _ => (br_mn (mn_v_11_conclude_119  hQ) (mn_v_11_shownWrong (fun _ _ => (br_mn (mn_v_11_conclude_119  hQ) (mn_v_11_shownWrong (fun _ _ => (mn_v_9_write (fun _ => (hQ _ _)))))))))))
theorem wp_v_11_conclude_88 {Q1 Q2 : Int → iST → Prop}  {x1 : Int} {x2 : Int} {x3 : Int} {y1 : Int} {u : iST} (hQ : ∀ r0 r1, Q1 r0 r1 → Q2 r0 r1) : v_11_conclude_88 Q1 x1 x2 x3 y1 u → pv_11_conclude_88 Q2 x1 x2 x3 y1 u := (zt_wp (sw_wp fun _ => (br_wp (wp_v_11_conclude_119  hQ) (wp_v_11_shownWrong (fun _ _ => (br_wp (wp_v_11_conclude_119  hQ) (wp_v_11_shownWrong (fun _ _ => (wp_v_9_write (fun _ => (hQ _ _)))))))))))
def pv_11_conclude (a0 : Int) (a1 : Int) (Q : Int → iST → Prop) (u : iST) : Prop :=
  pv_7_left a0 (fun v1 u => 
  rd (u.1 32) (fun v2 => 
  br (v2 = 0) (
    rd (u.1 15) (fun v3 => 
    br (v3 ≤ 0) (
      rd (u.1 13) (fun v4 => 
      br (v4 ≤ 0) (
        pv_11_conclude_88 Q a0 a1 v1 0 u) (
        pv_11_conclude_88 Q a0 a1 v1 1 u))) (
      pv_4_listOfLeft (fun v20 u => 
      pv_9_write 0 v20 (fun u => 
      br (v1 ≠ 20) (
        Q 6 u) (
        Q 5 u)) u) u))) (
    pv_9_clear 0 (fun u => 
    pv_4_begin (fun u => 
    Q 4 u) u) u))) u
theorem cj_v_11_conclude {Q1 Q2 Q3 : Int → iST → Prop}  {a0 : Int} {a1 : Int} {u : iST} (hQ : ∀ r0 r1, Q1 r0 r1 → Q2 r0 r1 → Q3 r0 r1) : v_11_conclude a0 a1 Q1 u → pv_11_conclude a0 a1 Q2 u → v_11_conclude a0 a1 Q3 u := (cj_v_7_left (fun _ _ => (rd_cj fun _ => (br_cj (rd_cj fun _ => (br_cj (rd_cj fun _ => (br_cj (cj_v_11_conclude_88  hQ) (cj_v_11_conclude_88  hQ))) (cj_v_4_listOfLeft (fun _ _ => (cj_v_9_write (fun _ => (br_cj (hQ _ _) (hQ _ _)))))))) (cj_v_9_clear (fun _ => (cj_v_4_begin (fun _ => (hQ _ _)))))))))
theorem mn_v_11_conclude {Q1 Q2 : Int → iST → Prop}  {a0 : Int} {a1 : Int} {u : iST} (hQ : ∀ r0 r1, Q1 r0 r1 → Q2 r0 r1) : pv_11_conclude a0 a1 Q1 u → pv_11_conclude a0 a1 Q2 u := (mn_v_7_left (fun _ _ => (rd_mn fun _ => (br_mn (rd_mn fun _ => (br_mn (rd_mn fun _ => (br_mn (mn_v_11_conclude_88  hQ) (mn_v_11_conclude_88  hQ))) (mn_v_4_listOfLeft (fun _ _ => (mn_v_9_write (fun _ => (br_mn (hQ _ _) (hQ _ _)))))))) (mn_v_9_clear (fun _ => (mn_v_4_begin (fun _ => (hQ _ _)))))))))
theorem wp_v_11_conclude {Q1 Q2 : Int → iST → Prop}  {a0 : Int} {a1 : Int} {u : iST} (hQ : ∀ r0 r1, Q1 r0 r1 → Q2 r0 r1) : v_11_conclude a0 a1 Q1 u → pv_11_conclude a0 a1 Q2 u := (wp_v_7_left (fun _ _ => (rd_wp fun _ => (br_wp (rd_wp fun _ => (br_wp (rd_wp fun _ => (br_wp (wp_v_11_conclude_88  hQ) (wp_v_11_conclude_88  hQ))) (wp_v_4_listOfLeft (fun _ _ => (wp_v_9_write (fun _ => (br_wp (hQ _ _) (hQ _ _)))))))) (wp_v_9_clear (fun _ => (wp_v_4_begin (fun _ => (hQ _ _)))))))))
def pv_11_run_140 (Q : Int → iST → Prop) (x2 : Int) (x4 : Int) (u : iST) : Prop :=
  rd (u.1 31) (fun v12 => 
  sw (iI u 48 v12) (fun u => 
  rd (u.1 32) (fun v13 => 
  sw (iI u 49 v13) (fun u => 
  pv_11_conclude x2 x4 (fun v14 u => 
  Q v14 u) u))))
theorem cj_v_11_run_140 {Q1 Q2 Q3 : Int → iST → Prop}  {x2 : Int} {x4 : Int} {u : iST} (hQ : ∀ r0 r1, Q1 r0 r1 → Q2 r0 r1 → Q3 r0 r1) : v_11_run_140 Q1 x2 x4 u → pv_11_run_140 Q2 x2 x4 u → v_11_run_140 Q3 x2 x4 u := (rd_cj fun _ => (sw_cj fun _ => (rd_cj fun _ => (sw_cj fun _ => (cj_v_11_conclude (fun _ _ => (hQ _ _)))))))
theorem mn_v_11_run_140 {Q1 Q2 : Int → iST → Prop}  {x2 : Int} {x4 : Int} {u : iST} (hQ : ∀ r0 r1, Q1 r0 r1 → Q2 r0 r1) : pv_11_run_140 Q1 x2 x4 u → pv_11_run_140 Q2 x2 x4 u := (rd_mn fun _ => (sw_mn fun _ => (rd_mn fun _ => (sw_mn fun _ => (mn_v_11_conclude (fun _ _ => (hQ _ _)))))))
theorem wp_v_11_run_140 {Q1 Q2 : Int → iST → Prop}  {x2 : Int} {x4 : Int} {u : iST} (hQ : ∀ r0 r1, Q1 r0 r1 → Q2 r0 r1) : v_11_run_140 Q1 x2 x4 u → pv_11_run_140 Q2 x2 x4 u := (rd_wp fun _ => (sw_wp fun _ => (rd_wp fun _ => (sw_wp fun _ => (wp_v_11_conclude (fun _ _ => (hQ _ _)))))))
def pv_11_run_111 (Q : Int → iST → Prop) (x2 : Int) (x4 : Int) (u : iST) : Prop :=
  pv_7_left x2 (fun v11 u => 
  br (v11 ≠ 22) (
    pv_11_run_140 Q x2 x4 u) (
    pv_7_item x2 3 (fun v15 u => 
    pv_3_goThrough v15 (fun u => 
    pv_11_run_140 Q x2 x4 u) u) u)) u
theorem cj_v_11_run_111 {Q1 Q2 Q3 : Int → iST → Prop}  {x2 : Int} {x4 : Int} {u : iST} (hQ : ∀ r0 r1, Q1 r0 r1 → Q2 r0 r1 → Q3 r0 r1) : v_11_run_111 Q1 x2 x4 u → pv_11_run_111 Q2 x2 x4 u → v_11_run_111 Q3 x2 x4 u := (cj_v_7_left (fun _ _ => (br_cj (cj_v_11_run_140  hQ) (cj_v_7_item (fun _ _ => (cj_v_3_goThrough (fun _ => (cj_v_11_run_140  hQ))))))))
theorem mn_v_11_run_111 {Q1 Q2 : Int → iST → Prop}  {x2 : Int} {x4 : Int} {u : iST} (hQ : ∀ r0 r1, Q1 r0 r1 → Q2 r0 r1) : pv_11_run_111 Q1 x2 x4 u → pv_11_run_111 Q2 x2 x4 u := (mn_v_7_left (fun _ _ => (br_mn (mn_v_11_run_140  hQ) (mn_v_7_item (fun _ _ => (mn_v_3_goThrough (fun _ => (mn_v_11_run_140  hQ))))))))
theorem wp_v_11_run_111 {Q1 Q2 : Int → iST → Prop}  {x2 : Int} {x4 : Int} {u : iST} (hQ : ∀ r0 r1, Q1 r0 r1 → Q2 r0 r1) : v_11_run_111 Q1 x2 x4 u → pv_11_run_111 Q2 x2 x4 u := (wp_v_7_left (fun _ _ => (br_wp (wp_v_11_run_140  hQ) (wp_v_7_item (fun _ _ => (wp_v_3_goThrough (fun _ => (wp_v_11_run_140  hQ))))))))
def pv_11_run_62 (Q : Int → iST → Prop) (x2 : Int) (x3 : Int) (u : iST) : Prop :=
  br (x3 = 0) (
    rd (u.1 29) (fun v6 => 
    rd (u.1 43) (fun v7 => 
    pv_7_begin v7 (fun u => 
    pv_11_prepare x2 (fun u => 
    rd (u.1 32) (fun v10 => 
    br (v10 ≠ 0) (
      pv_11_run_111 Q x2 v6 u) (
      pv_4_prove 0 (fun u => 
      pv_11_run_111 Q x2 v6 u) u))) u) u))) (
    Q x3 u)
theorem cj_v_11_run_62 {Q1 Q2 Q3 : Int → iST → Prop}  {x2 : Int} {x3 : Int} {u : iST} (hQ : ∀ r0 r1, Q1 r0 r1 → Q2 r0 r1 → Q3 r0 r1) : v_11_run_62 Q1 x2 x3 u → pv_11_run_62 Q2 x2 x3 u → v_11_run_62 Q3 x2 x3 u := (br_cj (rd_cj fun _ => (rd_cj fun _ => (cj_v_7_begin (fun _ => (cj_v_11_prepare (fun _ => (rd_cj fun _ => (br_cj (cj_v_11_run_111  hQ) (cj_v_4_prove (fun _ => (cj_v_11_run_111  hQ))))))))))) (hQ _ _))
theorem mn_v_11_run_62 {Q1 Q2 : Int → iST → Prop}  {x2 : Int} {x3 : Int} {u : iST} (hQ : ∀ r0 r1, Q1 r0 r1 → Q2 r0 r1) : pv_11_run_62 Q1 x2 x3 u → pv_11_run_62 Q2 x2 x3 u := (br_mn (rd_mn fun _ => (rd_mn fun _ => (mn_v_7_begin (fun _ => (mn_v_11_prepare (fun _ => (rd_mn fun _ => (br_mn (mn_v_11_run_111  hQ) (mn_v_4_prove (fun _ => (mn_v_11_run_111  hQ))))))))))) (hQ _ _))
theorem wp_v_11_run_62 {Q1 Q2 : Int → iST → Prop}  {x2 : Int} {x3 : Int} {u : iST} (hQ : ∀ r0 r1, Q1 r0 r1 → Q2 r0 r1) : v_11_run_62 Q1 x2 x3 u → pv_11_run_62 Q2 x2 x3 u := (br_wp (rd_wp fun _ => (rd_wp fun _ => (wp_v_7_begin (fun _ => (wp_v_11_prepare (fun _ => (rd_wp fun _ => (br_wp (wp_v_11_run_111  hQ) (wp_v_4_prove (fun _ => (wp_v_11_run_111  hQ))))))))))) (hQ _ _))
def pv_11_run (Q : Int → iST → Prop) (u : iST) : Prop :=
  rd (u.1 42) (fun v1 => 
  sw (iI u 42 0) (fun u => 
  pv_11_forgetLatest (fun u => 
  pv_5_read v1 (fun v3 u => 
  rd (u.1 21) (fun v4 => 
  br (v4 = 0) (
    pv_11_asked v3 (fun v5 u => 
    br (v5 ≠ 0) (
      pv_11_run_62 Q v3 v5 u) (
      rd (u.1 32) (fun v18 => 
      br (v18 = 0) (
        pv_11_run_62 Q v3 v5 u) (
        pv_11_run_62 Q v3 8 u)))) u) (
    Q 1 u))) u) u))
theorem cj_v_11_run {Q1 Q2 Q3 : Int → iST → Prop}  {u : iST} (hQ : ∀ r0 r1, Q1 r0 r1 → Q2 r0 r1 → Q3 r0 r1) : v_11_run Q1 u → pv_11_run Q2 u → v_11_run Q3 u := (rd_cj fun _ => (sw_cj fun _ => (cj_v_11_forgetLatest (fun _ => (cj_v_5_read (fun _ _ => (rd_cj fun _ => (br_cj (cj_v_11_asked (fun _ _ => (br_cj (cj_v_11_run_62  hQ) (rd_cj fun _ => (br_cj (cj_v_11_run_62  hQ) (cj_v_11_run_62  hQ)))))) (hQ _ _)))))))))
theorem mn_v_11_run {Q1 Q2 : Int → iST → Prop}  {u : iST} (hQ : ∀ r0 r1, Q1 r0 r1 → Q2 r0 r1) : pv_11_run Q1 u → pv_11_run Q2 u := (rd_mn fun _ => (sw_mn fun _ => (mn_v_11_forgetLatest (fun _ => (mn_v_5_read (fun _ _ => (rd_mn fun _ => (br_mn (mn_v_11_asked (fun _ _ => (br_mn (mn_v_11_run_62  hQ) (rd_mn fun _ => (br_mn (mn_v_11_run_62  hQ) (mn_v_11_run_62  hQ)))))) (hQ _ _)))))))))
theorem wp_v_11_run {Q1 Q2 : Int → iST → Prop}  {u : iST} (hQ : ∀ r0 r1, Q1 r0 r1 → Q2 r0 r1) : v_11_run Q1 u → pv_11_run Q2 u := (rd_wp fun _ => (sw_wp fun _ => (wp_v_11_forgetLatest (fun _ => (wp_v_5_read (fun _ _ => (rd_wp fun _ => (br_wp (wp_v_11_asked (fun _ _ => (br_wp (wp_v_11_run_62  hQ) (rd_wp fun _ => (br_wp (wp_v_11_run_62  hQ) (wp_v_11_run_62  hQ)))))) (hQ _ _)))))))))
def pv_11_fault (a0 : Int) (Q : Int → iST → Prop) (u : iST) : Prop :=
  br (a0 = 0) (
    rd (u.1 21) (fun v1 => 
    Q v1 u)) (
  br (a0 = 1) (
    rd (u.1 22) (fun v3 => 
    Q v3 u)) (
  br (a0 = 2) (
    rd (u.1 49) (fun v5 => 
    Q v5 u)) (
  Q (-1) u)))
theorem cj_v_11_fault {Q1 Q2 Q3 : Int → iST → Prop}  {a0 : Int} {u : iST} (hQ : ∀ r0 r1, Q1 r0 r1 → Q2 r0 r1 → Q3 r0 r1) : v_11_fault a0 Q1 u → pv_11_fault a0 Q2 u → v_11_fault a0 Q3 u := (br_cj (rd_cj fun _ => (hQ _ _)) (br_cj (rd_cj fun _ => (hQ _ _)) (br_cj (rd_cj fun _ => (hQ _ _)) (hQ _ _))))
theorem mn_v_11_fault {Q1 Q2 : Int → iST → Prop}  {a0 : Int} {u : iST} (hQ : ∀ r0 r1, Q1 r0 r1 → Q2 r0 r1) : pv_11_fault a0 Q1 u → pv_11_fault a0 Q2 u := (br_mn (rd_mn fun _ => (hQ _ _)) (br_mn (rd_mn fun _ => (hQ _ _)) (br_mn (rd_mn fun _ => (hQ _ _)) (hQ _ _))))
theorem wp_v_11_fault {Q1 Q2 : Int → iST → Prop}  {a0 : Int} {u : iST} (hQ : ∀ r0 r1, Q1 r0 r1 → Q2 r0 r1) : v_11_fault a0 Q1 u → pv_11_fault a0 Q2 u := (br_wp (rd_wp fun _ => (hQ _ _)) (br_wp (rd_wp fun _ => (hQ _ _)) (br_wp (rd_wp fun _ => (hQ _ _)) (hQ _ _))))
def pv_11_steps (Q : Int → iST → Prop) (u : iST) : Prop :=
  rd (u.1 48) (fun v1 => 
  Q v1 u)
theorem cj_v_11_steps {Q1 Q2 Q3 : Int → iST → Prop}  {u : iST} (hQ : ∀ r0 r1, Q1 r0 r1 → Q2 r0 r1 → Q3 r0 r1) : v_11_steps Q1 u → pv_11_steps Q2 u → v_11_steps Q3 u := (rd_cj fun _ => (hQ _ _))
theorem mn_v_11_steps {Q1 Q2 : Int → iST → Prop}  {u : iST} (hQ : ∀ r0 r1, Q1 r0 r1 → Q2 r0 r1) : pv_11_steps Q1 u → pv_11_steps Q2 u := (rd_mn fun _ => (hQ _ _))
theorem wp_v_11_steps {Q1 Q2 : Int → iST → Prop}  {u : iST} (hQ : ∀ r0 r1, Q1 r0 r1 → Q2 r0 r1) : v_11_steps Q1 u → pv_11_steps Q2 u := (rd_wp fun _ => (hQ _ _))
def pv_11_count (a0 : Int) (Q : Int → iST → Prop) (u : iST) : Prop :=
  br (a0 = 0) (
    rd (u.1 0) (fun v1 => 
    Q v1 u)) (
  br (a0 = 1) (
    rd (u.1 1) (fun v3 => 
    Q v3 u)) (
  br (a0 = 2) (
    pv_0_rules 0 (fun v5 u => 
    Q v5 u) u) (
  br (a0 = 3) (
    pv_0_rules 1 (fun v7 u => 
    Q v7 u) u) (
  br (a0 = 4) (
    rd (u.1 15) (fun v9 => 
    Q v9 u)) (
  Q (-1) u)))))
theorem cj_v_11_count {Q1 Q2 Q3 : Int → iST → Prop}  {a0 : Int} {u : iST} (hQ : ∀ r0 r1, Q1 r0 r1 → Q2 r0 r1 → Q3 r0 r1) : v_11_count a0 Q1 u → pv_11_count a0 Q2 u → v_11_count a0 Q3 u := (br_cj (rd_cj fun _ => (hQ _ _)) (br_cj (rd_cj fun _ => (hQ _ _)) (br_cj (cj_v_0_rules (fun _ _ => (hQ _ _))) (br_cj (cj_v_0_rules (fun _ _ => (hQ _ _))) (br_cj (rd_cj fun _ => (hQ _ _)) (hQ _ _))))))
theorem mn_v_11_count {Q1 Q2 : Int → iST → Prop}  {a0 : Int} {u : iST} (hQ : ∀ r0 r1, Q1 r0 r1 → Q2 r0 r1) : pv_11_count a0 Q1 u → pv_11_count a0 Q2 u := (br_mn (rd_mn fun _ => (hQ _ _)) (br_mn (rd_mn fun _ => (hQ _ _)) (br_mn (mn_v_0_rules (fun _ _ => (hQ _ _))) (br_mn (mn_v_0_rules (fun _ _ => (hQ _ _))) (br_mn (rd_mn fun _ => (hQ _ _)) (hQ _ _))))))
theorem wp_v_11_count {Q1 Q2 : Int → iST → Prop}  {a0 : Int} {u : iST} (hQ : ∀ r0 r1, Q1 r0 r1 → Q2 r0 r1) : v_11_count a0 Q1 u → pv_11_count a0 Q2 u := (br_wp (rd_wp fun _ => (hQ _ _)) (br_wp (rd_wp fun _ => (hQ _ _)) (br_wp (wp_v_0_rules (fun _ _ => (hQ _ _))) (br_wp (wp_v_0_rules (fun _ _ => (hQ _ _))) (br_wp (rd_wp fun _ => (hQ _ _)) (hQ _ _))))))
def pv_11_size (Q : Int → iST → Prop) (u : iST) : Prop :=
  rd (u.2.1 54 0) (fun v1 => 
  Q v1 u)
theorem cj_v_11_size {Q1 Q2 Q3 : Int → iST → Prop}  {u : iST} (hQ : ∀ r0 r1, Q1 r0 r1 → Q2 r0 r1 → Q3 r0 r1) : v_11_size Q1 u → pv_11_size Q2 u → v_11_size Q3 u := (rd_cj fun _ => (hQ _ _))
theorem mn_v_11_size {Q1 Q2 : Int → iST → Prop}  {u : iST} (hQ : ∀ r0 r1, Q1 r0 r1 → Q2 r0 r1) : pv_11_size Q1 u → pv_11_size Q2 u := (rd_mn fun _ => (hQ _ _))
theorem wp_v_11_size {Q1 Q2 : Int → iST → Prop}  {u : iST} (hQ : ∀ r0 r1, Q1 r0 r1 → Q2 r0 r1) : v_11_size Q1 u → pv_11_size Q2 u := (rd_wp fun _ => (hQ _ _))
def pv_11_letter (a0 : Int) (Q : Int → iST → Prop) (u : iST) : Prop :=
  br (a0 < 0) (
    Q (-1) u) (
    rd (u.2.1 54 0) (fun v1 => 
    br (v1 ≤ a0) (
      Q (-1) u) (
      bdp a0 (slenI 0) (rh (u.2.1 55 (2000 * 0 + a0)) (fun v2 => 
      Q v2 u)))))
theorem cj_v_11_letter {Q1 Q2 Q3 : Int → iST → Prop}  {a0 : Int} {u : iST} (hQ : ∀ r0 r1, Q1 r0 r1 → Q2 r0 r1 → Q3 r0 r1) : v_11_letter a0 Q1 u → pv_11_letter a0 Q2 u → v_11_letter a0 Q3 u := (br_cj (hQ _ _) (rd_cj fun _ => (br_cj (hQ _ _) (bd_cj (rh_cj fun _ => (hQ _ _))))))
theorem mn_v_11_letter {Q1 Q2 : Int → iST → Prop}  {a0 : Int} {u : iST} (hQ : ∀ r0 r1, Q1 r0 r1 → Q2 r0 r1) : pv_11_letter a0 Q1 u → pv_11_letter a0 Q2 u := (br_mn (hQ _ _) (rd_mn fun _ => (br_mn (hQ _ _) (bd_mn (rh_mn fun _ => (hQ _ _))))))
theorem wp_v_11_letter {Q1 Q2 : Int → iST → Prop}  {a0 : Int} {u : iST} (hQ : ∀ r0 r1, Q1 r0 r1 → Q2 r0 r1) : v_11_letter a0 Q1 u → pv_11_letter a0 Q2 u := (br_wp (hQ _ _) (rd_wp fun _ => (br_wp (hQ _ _) (bd_wp (rh_wp fun _ => (hQ _ _))))))
def pv_11_taken (a0 : Int) (Q : Int → iST → Prop) (u : iST) : Prop :=
  br (a0 < 0) (
    Q 0 u) (
    rd (u.1 2) (fun v1 => 
    br (v1 ≤ a0) (
      Q 0 u) (
      bdp a0 100 (rd (u.2.1 14 a0) (fun v2 => 
      Q v2 u)))))
theorem cj_v_11_taken {Q1 Q2 Q3 : Int → iST → Prop}  {a0 : Int} {u : iST} (hQ : ∀ r0 r1, Q1 r0 r1 → Q2 r0 r1 → Q3 r0 r1) : v_11_taken a0 Q1 u → pv_11_taken a0 Q2 u → v_11_taken a0 Q3 u := (br_cj (hQ _ _) (rd_cj fun _ => (br_cj (hQ _ _) (bd_cj (rd_cj fun _ => (hQ _ _))))))
theorem mn_v_11_taken {Q1 Q2 : Int → iST → Prop}  {a0 : Int} {u : iST} (hQ : ∀ r0 r1, Q1 r0 r1 → Q2 r0 r1) : pv_11_taken a0 Q1 u → pv_11_taken a0 Q2 u := (br_mn (hQ _ _) (rd_mn fun _ => (br_mn (hQ _ _) (bd_mn (rd_mn fun _ => (hQ _ _))))))
theorem wp_v_11_taken {Q1 Q2 : Int → iST → Prop}  {a0 : Int} {u : iST} (hQ : ∀ r0 r1, Q1 r0 r1 → Q2 r0 r1) : v_11_taken a0 Q1 u → pv_11_taken a0 Q2 u := (br_wp (hQ _ _) (rd_wp fun _ => (br_wp (hQ _ _) (bd_wp (rd_wp fun _ => (hQ _ _))))))
def pv_11_tell_204 (Q : Int → iST → Prop) (x3 : Int) (u : iST) : Prop :=
  pv_9_clear 0 (fun u => 
  pv_9_write 0 x3 (fun u => 
  rd (u.2.1 54 0) (fun v14 => 
  Q v14 u)) u) u
theorem cj_v_11_tell_204 {Q1 Q2 Q3 : Int → iST → Prop}  {x3 : Int} {u : iST} (hQ : ∀ r0 r1, Q1 r0 r1 → Q2 r0 r1 → Q3 r0 r1) : v_11_tell_204 Q1 x3 u → pv_11_tell_204 Q2 x3 u → v_11_tell_204 Q3 x3 u := (cj_v_9_clear (fun _ => (cj_v_9_write (fun _ => (rd_cj fun _ => (hQ _ _))))))
theorem mn_v_11_tell_204 {Q1 Q2 : Int → iST → Prop}  {x3 : Int} {u : iST} (hQ : ∀ r0 r1, Q1 r0 r1 → Q2 r0 r1) : pv_11_tell_204 Q1 x3 u → pv_11_tell_204 Q2 x3 u := (mn_v_9_clear (fun _ => (mn_v_9_write (fun _ => (rd_mn fun _ => (hQ _ _))))))
theorem wp_v_11_tell_204 {Q1 Q2 : Int → iST → Prop}  {x3 : Int} {u : iST} (hQ : ∀ r0 r1, Q1 r0 r1 → Q2 r0 r1) : v_11_tell_204 Q1 x3 u → pv_11_tell_204 Q2 x3 u := (wp_v_9_clear (fun _ => (wp_v_9_write (fun _ => (rd_wp fun _ => (hQ _ _))))))
def pv_11_tell_73 (Q : Int → iST → Prop) (x2 : Int) (y0 : Int) (u : iST) : Prop :=
  bdp x2 40 (rd (u.2.1 1 x2) (fun v18 => 
  bdp x2 40 (rd (u.2.1 3 x2) (fun v19 => 
  pv_11_pairCell v19 y0 (fun v20 u => 
  pv_7_made v20 (fun v21 u => 
  pv_11_pairCell v18 v21 (fun v22 u => 
  pv_7_made v22 (fun v23 u => 
  bdp x2 40 (rd (u.2.1 0 x2) (fun v24 => 
  pv_11_pairCell v24 v23 (fun v25 u => 
  pv_7_made v25 (fun v26 u => 
  pv_11_pairCell 20 v26 (fun v27 u => 
  pv_7_made v27 (fun v28 u => 
  pv_11_tell_204 Q v28 u) u) u) u) u))) u) u) u) u))))
theorem cj_v_11_tell_73 {Q1 Q2 Q3 : Int → iST → Prop}  {x2 : Int} {y0 : Int} {u : iST} (hQ : ∀ r0 r1, Q1 r0 r1 → Q2 r0 r1 → Q3 r0 r1) : v_11_tell_73 Q1 x2 y0 u → pv_11_tell_73 Q2 x2 y0 u → v_11_tell_73 Q3 x2 y0 u := (bd_cj (rd_cj fun _ => (bd_cj (rd_cj fun _ => (cj_v_11_pairCell (fun _ _ => (cj_v_7_made (fun _ _ => (cj_v_11_pairCell (fun _ _ => (cj_v_7_made (fun _ _ => (bd_cj (rd_cj fun _ => (cj_v_11_pairCell (fun _ _ => (cj_v_7_made (fun _ _ => (cj_v_11_pairCell (fun _ _ => (cj_v_7_made (fun _ _ => (cj_v_11_tell_204  hQ)))))))))))))))))))))))
theorem mn_v_11_tell_73 {Q1 Q2 : Int → iST → Prop}  {x2 : Int} {y0 : Int} {u : iST} (hQ : ∀ r0 r1, Q1 r0 r1 → Q2 r0 r1) : pv_11_tell_73 Q1 x2 y0 u → pv_11_tell_73 Q2 x2 y0 u := (bd_mn (rd_mn fun _ => (bd_mn (rd_mn fun _ => (mn_v_11_pairCell (fun _ _ => (mn_v_7_made (fun _ _ => (mn_v_11_pairCell (fun _ _ => (mn_v_7_made (fun _ _ => (bd_mn (rd_mn fun _ => (mn_v_11_pairCell (fun _ _ => (mn_v_7_made (fun _ _ => (mn_v_11_pairCell (fun _ _ => (mn_v_7_made (fun _ _ => (mn_v_11_tell_204  hQ)))))))))))))))))))))))
theorem wp_v_11_tell_73 {Q1 Q2 : Int → iST → Prop}  {x2 : Int} {y0 : Int} {u : iST} (hQ : ∀ r0 r1, Q1 r0 r1 → Q2 r0 r1) : v_11_tell_73 Q1 x2 y0 u → pv_11_tell_73 Q2 x2 y0 u := (bd_wp (rd_wp fun _ => (bd_wp (rd_wp fun _ => (wp_v_11_pairCell (fun _ _ => (wp_v_7_made (fun _ _ => (wp_v_11_pairCell (fun _ _ => (wp_v_7_made (fun _ _ => (bd_wp (rd_wp fun _ => (wp_v_11_pairCell (fun _ _ => (wp_v_7_made (fun _ _ => (wp_v_11_pairCell (fun _ _ => (wp_v_7_made (fun _ _ => (wp_v_11_tell_204  hQ)))))))))))))))))))))))
def pv_11_tell (a0 : Int) (Q : Int → iST → Prop) (u : iST) : Prop :=
  br (a0 < 0) (
    Q (-1) u) (
    rd (u.1 2) (fun v1 => 
    br (a0 < v1) (
      pv_0_placeOf a0 (fun v2 u => 
      bdp a0 100 (rd (u.2.1 14 a0) (fun v3 => 
      br (v3 ≠ 1) (
        bdp v2 60 (rd (u.2.1 6 v2) (fun v4 => 
        pv_11_pairCell v4 0 (fun v5 u => 
        pv_7_made v5 (fun v6 u => 
        bdp v2 60 (rd (u.2.1 5 v2) (fun v7 => 
        pv_11_pairCell v7 v6 (fun v8 u => 
        pv_7_made v8 (fun v9 u => 
        pv_11_pairCell 27 v9 (fun v10 u => 
        pv_7_made v10 (fun v11 u => 
        pv_11_tell_204 Q v11 u) u) u) u) u))) u) u))) (
        bdp v2 40 (rd (u.2.1 4 v2) (fun v15 => 
        br (v15 ≠ (-1)) (
          pv_11_pairCell v15 0 (fun v16 u => 
          pv_7_made v16 (fun v17 u => 
          pv_11_tell_73 Q v2 v17 u) u) u) (
          pv_11_tell_73 Q v2 0 u))))))) u) (
      Q (-1) u)))
theorem cj_v_11_tell {Q1 Q2 Q3 : Int → iST → Prop}  {a0 : Int} {u : iST} (hQ : ∀ r0 r1, Q1 r0 r1 → Q2 r0 r1 → Q3 r0 r1) : v_11_tell a0 Q1 u → pv_11_tell a0 Q2 u → v_11_tell a0 Q3 u := (br_cj (hQ _ _) (rd_cj fun _ => (br_cj (cj_v_0_placeOf (fun _ _ => (bd_cj (rd_cj fun _ => (br_cj (bd_cj (rd_cj fun _ => (cj_v_11_pairCell (fun _ _ => (cj_v_7_made (fun _ _ => (bd_cj (rd_cj fun _ => (cj_v_11_pairCell (fun _ _ => (cj_v_7_made (fun _ _ => (cj_v_11_pairCell (fun _ _ => (cj_v_7_made (fun _ _ => (cj_v_11_tell_204  hQ))))))))))))))))) (bd_cj (rd_cj fun _ => (br_cj (cj_v_11_pairCell (fun _ _ => (cj_v_7_made (fun _ _ => (cj_v_11_tell_73  hQ))))) (cj_v_11_tell_73  hQ))))))))) (hQ _ _))))
theorem mn_v_11_tell {Q1 Q2 : Int → iST → Prop}  {a0 : Int} {u : iST} (hQ : ∀ r0 r1, Q1 r0 r1 → Q2 r0 r1) : pv_11_tell a0 Q1 u → pv_11_tell a0 Q2 u := (br_mn (hQ _ _) (rd_mn fun _ => (br_mn (mn_v_0_placeOf (fun _ _ => (bd_mn (rd_mn fun _ => (br_mn (bd_mn (rd_mn fun _ => (mn_v_11_pairCell (fun _ _ => (mn_v_7_made (fun _ _ => (bd_mn (rd_mn fun _ => (mn_v_11_pairCell (fun _ _ => (mn_v_7_made (fun _ _ => (mn_v_11_pairCell (fun _ _ => (mn_v_7_made (fun _ _ => (mn_v_11_tell_204  hQ))))))))))))))))) (bd_mn (rd_mn fun _ => (br_mn (mn_v_11_pairCell (fun _ _ => (mn_v_7_made (fun _ _ => (mn_v_11_tell_73  hQ))))) (mn_v_11_tell_73  hQ))))))))) (hQ _ _))))
theorem wp_v_11_tell {Q1 Q2 : Int → iST → Prop}  {a0 : Int} {u : iST} (hQ : ∀ r0 r1, Q1 r0 r1 → Q2 r0 r1) : v_11_tell a0 Q1 u → pv_11_tell a0 Q2 u := (br_wp (hQ _ _) (rd_wp fun _ => (br_wp (wp_v_0_placeOf (fun _ _ => (bd_wp (rd_wp fun _ => (br_wp (bd_wp (rd_wp fun _ => (wp_v_11_pairCell (fun _ _ => (wp_v_7_made (fun _ _ => (bd_wp (rd_wp fun _ => (wp_v_11_pairCell (fun _ _ => (wp_v_7_made (fun _ _ => (wp_v_11_pairCell (fun _ _ => (wp_v_7_made (fun _ _ => (wp_v_11_tell_204  hQ))))))))))))))))) (bd_wp (rd_wp fun _ => (br_wp (wp_v_11_pairCell (fun _ _ => (wp_v_7_made (fun _ _ => (wp_v_11_tell_73  hQ))))) (wp_v_11_tell_73  hQ))))))))) (hQ _ _))))
def pv_11_recheck (Q : Int → iST → Prop) (u : iST) : Prop :=
  rz (u.1 50) (fun v1 => 
  br (v1 ≠ 0) (
    pv_7_begin 1000000 (fun u => 
    pv_6_doNotesHold (fun v3 u => 
    pv_4_prove 1 (fun u => 
    br (v3 = 0) (
      ztp 0 (Q 0 u)) (
      pv_4_isAllProved (fun v5 u => 
      br (v5 = 0) (
        ztp 0 (Q 0 u)) (
        ztp 1 (Q 1 u))) u)) u) u) u) (
    ztp 0 (Q 0 u)))
theorem cj_v_11_recheck {Q1 Q2 Q3 : Int → iST → Prop}  {u : iST} (hQ : ∀ r0 r1, Q1 r0 r1 → Q2 r0 r1 → Q3 r0 r1) : v_11_recheck Q1 u → pv_11_recheck Q2 u → v_11_recheck Q3 u := (rz_cj fun _ => (br_cj (cj_v_7_begin (fun _ => (cj_v_6_doNotesHold (fun _ _ => (cj_v_4_prove (fun _ => (br_cj (zt_cj (hQ _ _)) (cj_v_4_isAllProved (fun _ _ => (br_cj (zt_cj (hQ _ _)) (zt_cj (hQ _ _)))))))))))) (zt_cj (hQ _ _))))
theorem mn_v_11_recheck {Q1 Q2 : Int → iST → Prop}  {u : iST} (hQ : ∀ r0 r1, Q1 r0 r1 → Q2 r0 r1) : pv_11_recheck Q1 u → pv_11_recheck Q2 u := (rz_mn fun _ => (br_mn (mn_v_7_begin (fun _ => (mn_v_6_doNotesHold (fun _ _ => (mn_v_4_prove (fun _ => (br_mn (zt_mn (hQ _ _)) (mn_v_4_isAllProved (fun _ _ => (br_mn (zt_mn (hQ _ _)) (zt_mn (hQ _ _)))))))))))) (zt_mn (hQ _ _))))
theorem wp_v_11_recheck {Q1 Q2 : Int → iST → Prop}  {u : iST} (hQ : ∀ r0 r1, Q1 r0 r1 → Q2 r0 r1) : v_11_recheck Q1 u → pv_11_recheck Q2 u := (rz_wp fun _ => (br_wp (wp_v_7_begin (fun _ => (wp_v_6_doNotesHold (fun _ _ => (wp_v_4_prove (fun _ => (br_wp (zt_wp (hQ _ _)) (wp_v_4_isAllProved (fun _ _ => (br_wp (zt_wp (hQ _ _)) (zt_wp (hQ _ _)))))))))))) (zt_wp (hQ _ _))))
