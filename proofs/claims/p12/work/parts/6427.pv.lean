def pv_6_learn_130 (Q : iST → Prop) (x1 : Int) (x2 : Int) (x3 : Int) (x4 : Int) (y0 : Int) (u : iST) : Prop :=
  br (x3 = 0) (
    br (x4 = 0) (
      pv_6_learn_158 Q x1 x3 x4 y0 1 u) (
      pv_6_learn_158 Q x1 x3 x4 y0 0 u)) (
    pv_7_item x2 2 (fun v11 u => 
    pv_6_learn_158 Q x1 x3 x4 y0 v11 u) u)
theorem cj_v_6_learn_130 {Q1 Q2 Q3 : iST → Prop}  {x1 : Int} {x2 : Int} {x3 : Int} {x4 : Int} {y0 : Int} {u : iST} (hQ : ∀ r0, Q1 r0 → Q2 r0 → Q3 r0) : v_6_learn_130 Q1 x1 x2 x3 x4 y0 u → pv_6_learn_130 Q2 x1 x2 x3 x4 y0 u → v_6_learn_130 Q3 x1 x2 x3 x4 y0 u := (br_cj (br_cj (cj_v_6_learn_158  hQ) (cj_v_6_learn_158  hQ)) (cj_v_7_item (fun _ _ => (cj_v_6_learn_158  hQ))))
theorem mn_v_6_learn_130 {Q1 Q2 : iST → Prop}  {x1 : Int} {x2 : Int} {x3 : Int} {x4 : Int} {y0 : Int} {u : iST} (hQ : ∀ r0, Q1 r0 → Q2 r0) : pv_6_learn_130 Q1 x1 x2 x3 x4 y0 u → pv_6_learn_130 Q2 x1 x2 x3 x4 y0 u := (br_mn (br_mn (mn_v_6_learn_158  hQ) (mn_v_6_learn_158  hQ)) (mn_v_7_item (fun _ _ => (mn_v_6_learn_158  hQ))))
theorem wp_v_6_learn_130 {Q1 Q2 : iST → Prop}  {x1 : Int} {x2 : Int} {x3 : Int} {x4 : Int} {y0 : Int} {u : iST} (hQ : ∀ r0, Q1 r0 → Q2 r0) : v_6_learn_130 Q1 x1 x2 x3 x4 y0 u → pv_6_learn_130 Q2 x1 x2 x3 x4 y0 u := (br_wp (br_wp (wp_v_6_learn_158  hQ) (wp_v_6_learn_158  hQ)) (wp_v_7_item (fun _ _ => (wp_v_6_learn_158  hQ))))
def pv_6_learn_117 (Q : iST → Prop) (x1 : Int) (x2 : Int) (x3 : Int) (x4 : Int) (u : iST) : Prop :=
  pv_7_item x2 1 (fun v6 u => 
  pv_6_learn_130 Q x1 x2 x3 x4 v6 u) u
theorem cj_v_6_learn_117 {Q1 Q2 Q3 : iST → Prop}  {x1 : Int} {x2 : Int} {x3 : Int} {x4 : Int} {u : iST} (hQ : ∀ r0, Q1 r0 → Q2 r0 → Q3 r0) : v_6_learn_117 Q1 x1 x2 x3 x4 u → pv_6_learn_117 Q2 x1 x2 x3 x4 u → v_6_learn_117 Q3 x1 x2 x3 x4 u := (cj_v_7_item (fun _ _ => (cj_v_6_learn_130  hQ)))
theorem mn_v_6_learn_117 {Q1 Q2 : iST → Prop}  {x1 : Int} {x2 : Int} {x3 : Int} {x4 : Int} {u : iST} (hQ : ∀ r0, Q1 r0 → Q2 r0) : pv_6_learn_117 Q1 x1 x2 x3 x4 u → pv_6_learn_117 Q2 x1 x2 x3 x4 u := (mn_v_7_item (fun _ _ => (mn_v_6_learn_130  hQ)))
theorem wp_v_6_learn_117 {Q1 Q2 : iST → Prop}  {x1 : Int} {x2 : Int} {x3 : Int} {x4 : Int} {u : iST} (hQ : ∀ r0, Q1 r0 → Q2 r0) : v_6_learn_117 Q1 x1 x2 x3 x4 u → pv_6_learn_117 Q2 x1 x2 x3 x4 u := (wp_v_7_item (fun _ _ => (wp_v_6_learn_130  hQ)))
def pv_6_learn_86 (Q : iST → Prop) (x1 : Int) (x2 : Int) (u : iST) : Prop :=
  pv_7_isCallOf x2 4 (fun v4 u => 
  pv_7_isCallOf x2 16 (fun v5 u => 
  br (v4 ≠ 0) (
    pv_6_learn_117 Q x1 x2 v4 v5 u) (
    br (v5 = 0) (
      pv_6_learn_130 Q x1 x2 v4 v5 x2 u) (
      pv_6_learn_117 Q x1 x2 v4 v5 u))) u) u
theorem cj_v_6_learn_86 {Q1 Q2 Q3 : iST → Prop}  {x1 : Int} {x2 : Int} {u : iST} (hQ : ∀ r0, Q1 r0 → Q2 r0 → Q3 r0) : v_6_learn_86 Q1 x1 x2 u → pv_6_learn_86 Q2 x1 x2 u → v_6_learn_86 Q3 x1 x2 u := (cj_v_7_isCallOf (fun _ _ => (cj_v_7_isCallOf (fun _ _ => (br_cj (cj_v_6_learn_117  hQ) (br_cj (cj_v_6_learn_130  hQ) (cj_v_6_learn_117  hQ)))))))
theorem mn_v_6_learn_86 {Q1 Q2 : iST → Prop}  {x1 : Int} {x2 : Int} {u : iST} (hQ : ∀ r0, Q1 r0 → Q2 r0) : pv_6_learn_86 Q1 x1 x2 u → pv_6_learn_86 Q2 x1 x2 u := (mn_v_7_isCallOf (fun _ _ => (mn_v_7_isCallOf (fun _ _ => (br_mn (mn_v_6_learn_117  hQ) (br_mn (mn_v_6_learn_130  hQ) (mn_v_6_learn_117  hQ)))))))
theorem wp_v_6_learn_86 {Q1 Q2 : iST → Prop}  {x1 : Int} {x2 : Int} {u : iST} (hQ : ∀ r0, Q1 r0 → Q2 r0) : v_6_learn_86 Q1 x1 x2 u → pv_6_learn_86 Q2 x1 x2 u := (wp_v_7_isCallOf (fun _ _ => (wp_v_7_isCallOf (fun _ _ => (br_wp (wp_v_6_learn_117  hQ) (br_wp (wp_v_6_learn_130  hQ) (wp_v_6_learn_117  hQ)))))))
def pv_6_learn_37b (R37 : Int → Int → Int → iST → Prop) (Q : iST → Prop) (x1 : Int) (x2 : Int) (x3 : Int) (u : iST) : Prop :=
  br (120 ≤ x3) (
    pv_6_learn_86 Q x1 x2 u) (
    pv_7_isCallOf x2 6 (fun v12 u => 
    br (v12 = 0) (
      pv_6_learn_86 Q x1 x2 u) (
      pv_7_item x2 1 (fun v13 u => 
      pv_6_addHypotheses x1 v13 (fun u => 
      pv_7_item x2 2 (fun v15 u => 
      ovp (x3 + 1) (
      R37 x1 v15 (x3 + 1) u)) u) u) u)) u)
theorem cj_v_6_learn_37b {Q1 Q2 Q3 : iST → Prop} {R371 R372 R373 : Int → Int → Int → iST → Prop} {x1 : Int} {x2 : Int} {x3 : Int} {u : iST} (hR37 : ∀ r0 r1 r2 r3, R371 r0 r1 r2 r3 → R372 r0 r1 r2 r3 → R373 r0 r1 r2 r3) (hQ : ∀ r0, Q1 r0 → Q2 r0 → Q3 r0) : v_6_learn_37b R371 Q1 x1 x2 x3 u → pv_6_learn_37b R372 Q2 x1 x2 x3 u → v_6_learn_37b R373 Q3 x1 x2 x3 u := (br_cj (cj_v_6_learn_86  hQ) (cj_v_7_isCallOf (fun _ _ => (br_cj (cj_v_6_learn_86  hQ) (cj_v_7_item (fun _ _ => (cj_v_6_addHypotheses (fun _ => (cj_v_7_item (fun _ _ => (ov_cj (hR37 _ _ _ _))))))))))))
theorem mn_v_6_learn_37b {Q1 Q2 : iST → Prop} {R371 R372 : Int → Int → Int → iST → Prop} {x1 : Int} {x2 : Int} {x3 : Int} {u : iST} (hR37 : ∀ r0 r1 r2 r3, R371 r0 r1 r2 r3 → R372 r0 r1 r2 r3) (hQ : ∀ r0, Q1 r0 → Q2 r0) : pv_6_learn_37b R371 Q1 x1 x2 x3 u → pv_6_learn_37b R372 Q2 x1 x2 x3 u := (br_mn (mn_v_6_learn_86  hQ) (mn_v_7_isCallOf (fun _ _ => (br_mn (mn_v_6_learn_86  hQ) (mn_v_7_item (fun _ _ => (mn_v_6_addHypotheses (fun _ => (mn_v_7_item (fun _ _ => (ov_mn (hR37 _ _ _ _))))))))))))
theorem wp_v_6_learn_37b {Q1 Q2 : iST → Prop} {R371 R372 : Int → Int → Int → iST → Prop} {x1 : Int} {x2 : Int} {x3 : Int} {u : iST} (hR37 : ∀ r0 r1 r2 r3, R371 r0 r1 r2 r3 → R372 r0 r1 r2 r3) (hQ : ∀ r0, Q1 r0 → Q2 r0) : v_6_learn_37b R371 Q1 x1 x2 x3 u → pv_6_learn_37b R372 Q2 x1 x2 x3 u := (br_wp (wp_v_6_learn_86  hQ) (wp_v_7_isCallOf (fun _ _ => (br_wp (wp_v_6_learn_86  hQ) (wp_v_7_item (fun _ _ => (wp_v_6_addHypotheses (fun _ => (wp_v_7_item (fun _ _ => (ov_wp (hR37 _ _ _ _))))))))))))
def pv_6_learn_37 (Q : iST → Prop) (x1 : Int) (x2 : Int) (x3 : Int) (u : iST) : Prop := ∃ R37 : Int → Int → Int → iST → Prop, (∀ (x1 : Int) (x2 : Int) (x3 : Int) (u : iST), R37 x1 x2 x3 u → pv_6_learn_37b R37 Q x1 x2 x3 u) ∧ R37 x1 x2 x3 u
theorem cj_v_6_learn_37 {Q1 Q2 Q3 : iST → Prop}  {x1 : Int} {x2 : Int} {x3 : Int} {u : iST} (hQ : ∀ r0, Q1 r0 → Q2 r0 → Q3 r0) : v_6_learn_37 Q1 x1 x2 x3 u → pv_6_learn_37 Q2 x1 x2 x3 u → v_6_learn_37 Q3 x1 x2 x3 u := by
  intro a b R3 c3
  obtain ⟨R2, c2, b2⟩ := b
  exact a (fun r0 r1 r2 r3 => R2 r0 r1 r2 r3 → R3 r0 r1 r2 r3) (fun r0 r1 r2 r3 a b => c3 r0 r1 r2 r3 (cj_v_6_learn_37b (fun r0 r1 r2 r3 a b => a b) hQ a (c2 r0 r1 r2 r3 b))) b2
theorem pv_6_learn_37_i  {Q : iST → Prop} {x1 : Int} {x2 : Int} {x3 : Int} {u : iST} (I : Int → Int → Int → iST → Prop) (s : ∀ (x1 : Int) (x2 : Int) (x3 : Int) (u : iST), I x1 x2 x3 u → pv_6_learn_37b I Q x1 x2 x3 u) (h : I x1 x2 x3 u) : pv_6_learn_37 Q x1 x2 x3 u := ⟨I, s, h⟩
theorem mn_v_6_learn_37 {Q1 Q2 : iST → Prop}  {x1 : Int} {x2 : Int} {x3 : Int} {u : iST} (hQ : ∀ r0, Q1 r0 → Q2 r0) : pv_6_learn_37 Q1 x1 x2 x3 u → pv_6_learn_37 Q2 x1 x2 x3 u := fun ⟨R, s, h⟩ => ⟨R, fun r0 r1 r2 r3 a => mn_v_6_learn_37b (fun r0 r1 r2 r3 a => a) hQ (s r0 r1 r2 r3 a), h⟩
theorem un_v_6_learn_37  {Q : iST → Prop} {x1 : Int} {x2 : Int} {x3 : Int} {u : iST} : pv_6_learn_37 Q x1 x2 x3 u → pv_6_learn_37b (fun x1 x2 x3 u => pv_6_learn_37 Q x1 x2 x3 u) Q x1 x2 x3 u := fun ⟨R, s, h⟩ => mn_v_6_learn_37b (fun r0 r1 r2 r3 a => ⟨R, s, a⟩) (fun _ h => h) (s _ _ _ _ h)
theorem fo_v_6_learn_37  {Q : iST → Prop} {x1 : Int} {x2 : Int} {x3 : Int} {u : iST} : pv_6_learn_37b (fun x1 x2 x3 u => pv_6_learn_37 Q x1 x2 x3 u) Q x1 x2 x3 u → pv_6_learn_37 Q x1 x2 x3 u := fun h => ⟨fun x1 x2 x3 u => pv_6_learn_37b (fun x1 x2 x3 u => pv_6_learn_37 Q x1 x2 x3 u) Q x1 x2 x3 u, fun r0 r1 r2 r3 a => mn_v_6_learn_37b (fun r0 r1 r2 r3 a => un_v_6_learn_37 a) (fun _ h => h) a, h⟩
theorem wp_v_6_learn_37 {Q1 Q2 : iST → Prop}  {x1 : Int} {x2 : Int} {x3 : Int} {u : iST} (hQ : ∀ r0, Q1 r0 → Q2 r0) : v_6_learn_37 Q1 x1 x2 x3 u → pv_6_learn_37 Q2 x1 x2 x3 u := fun a => a (fun x1 x2 x3 u => pv_6_learn_37 Q2 x1 x2 x3 u) (fun x1 x2 x3 u b => fo_v_6_learn_37 (wp_v_6_learn_37b (fun r0 r1 r2 r3 a => a) hQ b))
def pv_6_learn (Q : iST → Prop) (u : iST) : Prop :=
  rd (u.1 1) (fun v1 => 
  ovp (v1 - 1) (
  br (0 ≤ (v1 - 1)) (
    bdp (v1 - 1) 60 (rd (u.2.1 6 (v1 - 1)) (fun v3 => 
    bdp (v1 - 1) 60 (sw (iA u 9 (v1 - 1) 0) (fun u => 
    pv_6_learn_37 Q (v1 - 1) v3 0 u))))) (
    Q u)))
theorem cj_v_6_learn {Q1 Q2 Q3 : iST → Prop}  {u : iST} (hQ : ∀ r0, Q1 r0 → Q2 r0 → Q3 r0) : v_6_learn Q1 u → pv_6_learn Q2 u → v_6_learn Q3 u := (rd_cj fun _ => (ov_cj (br_cj (bd_cj (rd_cj fun _ => (bd_cj (sw_cj fun _ => (cj_v_6_learn_37  hQ))))) (hQ _))))
theorem mn_v_6_learn {Q1 Q2 : iST → Prop}  {u : iST} (hQ : ∀ r0, Q1 r0 → Q2 r0) : pv_6_learn Q1 u → pv_6_learn Q2 u := (rd_mn fun _ => (ov_mn (br_mn (bd_mn (rd_mn fun _ => (bd_mn (sw_mn fun _ => (mn_v_6_learn_37  hQ))))) (hQ _))))
theorem wp_v_6_learn {Q1 Q2 : iST → Prop}  {u : iST} (hQ : ∀ r0, Q1 r0 → Q2 r0) : v_6_learn Q1 u → pv_6_learn Q2 u := (rd_wp fun _ => (ov_wp (br_wp (bd_wp (rd_wp fun _ => (bd_wp (sw_wp fun _ => (wp_v_6_learn_37  hQ))))) (hQ _))))
def pv_7_begin (a0 : Int) (Q : iST → Prop) (u : iST) : Prop :=
  sw (iI u 30 a0) (fun u => 
  sw (iI u 31 0) (fun u => 
  sw (iI u 32 0) (fun u => 
  Q u)))
theorem cj_v_7_begin {Q1 Q2 Q3 : iST → Prop}  {a0 : Int} {u : iST} (hQ : ∀ r0, Q1 r0 → Q2 r0 → Q3 r0) : v_7_begin a0 Q1 u → pv_7_begin a0 Q2 u → v_7_begin a0 Q3 u := (sw_cj fun _ => (sw_cj fun _ => (sw_cj fun _ => (hQ _))))
theorem mn_v_7_begin {Q1 Q2 : iST → Prop}  {a0 : Int} {u : iST} (hQ : ∀ r0, Q1 r0 → Q2 r0) : pv_7_begin a0 Q1 u → pv_7_begin a0 Q2 u := (sw_mn fun _ => (sw_mn fun _ => (sw_mn fun _ => (hQ _))))
theorem wp_v_7_begin {Q1 Q2 : iST → Prop}  {a0 : Int} {u : iST} (hQ : ∀ r0, Q1 r0 → Q2 r0) : v_7_begin a0 Q1 u → pv_7_begin a0 Q2 u := (sw_wp fun _ => (sw_wp fun _ => (sw_wp fun _ => (hQ _))))
def pv_7_forget_47 (Q : iST → Prop) (x1 : Int) (u : iST) : Prop :=
  rd (u.1 29) (fun v3 => 
  rd (if x1 < v3 then x1 else v3) (fun v4 => 
  rd (if 0 < v4 then v4 else 0) (fun v5 => 
  sw (iI u 29 v5) (fun u => 
  Q u))))
theorem cj_v_7_forget_47 {Q1 Q2 Q3 : iST → Prop}  {x1 : Int} {u : iST} (hQ : ∀ r0, Q1 r0 → Q2 r0 → Q3 r0) : v_7_forget_47 Q1 x1 u → pv_7_forget_47 Q2 x1 u → v_7_forget_47 Q3 x1 u := (rd_cj fun _ => (rd_cj fun _ => (rd_cj fun _ => (sw_cj fun _ => (hQ _)))))
theorem mn_v_7_forget_47 {Q1 Q2 : iST → Prop}  {x1 : Int} {u : iST} (hQ : ∀ r0, Q1 r0 → Q2 r0) : pv_7_forget_47 Q1 x1 u → pv_7_forget_47 Q2 x1 u := (rd_mn fun _ => (rd_mn fun _ => (rd_mn fun _ => (sw_mn fun _ => (hQ _)))))
theorem wp_v_7_forget_47 {Q1 Q2 : iST → Prop}  {x1 : Int} {u : iST} (hQ : ∀ r0, Q1 r0 → Q2 r0) : v_7_forget_47 Q1 x1 u → pv_7_forget_47 Q2 x1 u := (rd_wp fun _ => (rd_wp fun _ => (rd_wp fun _ => (sw_wp fun _ => (hQ _)))))
def pv_7_forget_7b (R7 : Int → Int → iST → Prop) (Q : iST → Prop) (x1 : Int) (x2 : Int) (u : iST) : Prop :=
  br (x2 < x1) (
    pv_7_forget_47 Q x1 u) (
    br (x2 < 0) (
      pv_7_forget_47 Q x1 u) (
      bdp x2 160000 (rl (u.2.2 x2) (fun v6 => 
      rl (wlmul v6 (-7046029254386353131)) (fun v7 => 
      rl (wlushr v7 49) (fun v8 => 
      rd (wl2i v8) (fun v9 => 
      bdp x2 160000 (rd (u.2.1 27 x2) (fun v10 => 
      bdp v9 32768 (sw (iA u 30 v9 v10) (fun u => 
      ovp (x2 + (-1)) (
      R7 x1 (x2 + (-1)) u))))))))))))
theorem cj_v_7_forget_7b {Q1 Q2 Q3 : iST → Prop} {R71 R72 R73 : Int → Int → iST → Prop} {x1 : Int} {x2 : Int} {u : iST} (hR7 : ∀ r0 r1 r2, R71 r0 r1 r2 → R72 r0 r1 r2 → R73 r0 r1 r2) (hQ : ∀ r0, Q1 r0 → Q2 r0 → Q3 r0) : v_7_forget_7b R71 Q1 x1 x2 u → pv_7_forget_7b R72 Q2 x1 x2 u → v_7_forget_7b R73 Q3 x1 x2 u := (br_cj (cj_v_7_forget_47  hQ) (br_cj (cj_v_7_forget_47  hQ) (bd_cj (rl_cj fun _ => (rl_cj fun _ => (rl_cj fun _ => (rd_cj fun _ => (bd_cj (rd_cj fun _ => (bd_cj (sw_cj fun _ => (ov_cj (hR7 _ _ _)))))))))))))
theorem mn_v_7_forget_7b {Q1 Q2 : iST → Prop} {R71 R72 : Int → Int → iST → Prop} {x1 : Int} {x2 : Int} {u : iST} (hR7 : ∀ r0 r1 r2, R71 r0 r1 r2 → R72 r0 r1 r2) (hQ : ∀ r0, Q1 r0 → Q2 r0) : pv_7_forget_7b R71 Q1 x1 x2 u → pv_7_forget_7b R72 Q2 x1 x2 u := (br_mn (mn_v_7_forget_47  hQ) (br_mn (mn_v_7_forget_47  hQ) (bd_mn (rl_mn fun _ => (rl_mn fun _ => (rl_mn fun _ => (rd_mn fun _ => (bd_mn (rd_mn fun _ => (bd_mn (sw_mn fun _ => (ov_mn (hR7 _ _ _)))))))))))))
theorem wp_v_7_forget_7b {Q1 Q2 : iST → Prop} {R71 R72 : Int → Int → iST → Prop} {x1 : Int} {x2 : Int} {u : iST} (hR7 : ∀ r0 r1 r2, R71 r0 r1 r2 → R72 r0 r1 r2) (hQ : ∀ r0, Q1 r0 → Q2 r0) : v_7_forget_7b R71 Q1 x1 x2 u → pv_7_forget_7b R72 Q2 x1 x2 u := (br_wp (wp_v_7_forget_47  hQ) (br_wp (wp_v_7_forget_47  hQ) (bd_wp (rl_wp fun _ => (rl_wp fun _ => (rl_wp fun _ => (rd_wp fun _ => (bd_wp (rd_wp fun _ => (bd_wp (sw_wp fun _ => (ov_wp (hR7 _ _ _)))))))))))))
def pv_7_forget_7 (Q : iST → Prop) (x1 : Int) (x2 : Int) (u : iST) : Prop := ∃ R7 : Int → Int → iST → Prop, (∀ (x1 : Int) (x2 : Int) (u : iST), R7 x1 x2 u → pv_7_forget_7b R7 Q x1 x2 u) ∧ R7 x1 x2 u
theorem cj_v_7_forget_7 {Q1 Q2 Q3 : iST → Prop}  {x1 : Int} {x2 : Int} {u : iST} (hQ : ∀ r0, Q1 r0 → Q2 r0 → Q3 r0) : v_7_forget_7 Q1 x1 x2 u → pv_7_forget_7 Q2 x1 x2 u → v_7_forget_7 Q3 x1 x2 u := by
  intro a b R3 c3
  obtain ⟨R2, c2, b2⟩ := b
  exact a (fun r0 r1 r2 => R2 r0 r1 r2 → R3 r0 r1 r2) (fun r0 r1 r2 a b => c3 r0 r1 r2 (cj_v_7_forget_7b (fun r0 r1 r2 a b => a b) hQ a (c2 r0 r1 r2 b))) b2
theorem pv_7_forget_7_i  {Q : iST → Prop} {x1 : Int} {x2 : Int} {u : iST} (I : Int → Int → iST → Prop) (s : ∀ (x1 : Int) (x2 : Int) (u : iST), I x1 x2 u → pv_7_forget_7b I Q x1 x2 u) (h : I x1 x2 u) : pv_7_forget_7 Q x1 x2 u := ⟨I, s, h⟩
theorem mn_v_7_forget_7 {Q1 Q2 : iST → Prop}  {x1 : Int} {x2 : Int} {u : iST} (hQ : ∀ r0, Q1 r0 → Q2 r0) : pv_7_forget_7 Q1 x1 x2 u → pv_7_forget_7 Q2 x1 x2 u := fun ⟨R, s, h⟩ => ⟨R, fun r0 r1 r2 a => mn_v_7_forget_7b (fun r0 r1 r2 a => a) hQ (s r0 r1 r2 a), h⟩
theorem un_v_7_forget_7  {Q : iST → Prop} {x1 : Int} {x2 : Int} {u : iST} : pv_7_forget_7 Q x1 x2 u → pv_7_forget_7b (fun x1 x2 u => pv_7_forget_7 Q x1 x2 u) Q x1 x2 u := fun ⟨R, s, h⟩ => mn_v_7_forget_7b (fun r0 r1 r2 a => ⟨R, s, a⟩) (fun _ h => h) (s _ _ _ h)
theorem fo_v_7_forget_7  {Q : iST → Prop} {x1 : Int} {x2 : Int} {u : iST} : pv_7_forget_7b (fun x1 x2 u => pv_7_forget_7 Q x1 x2 u) Q x1 x2 u → pv_7_forget_7 Q x1 x2 u := fun h => ⟨fun x1 x2 u => pv_7_forget_7b (fun x1 x2 u => pv_7_forget_7 Q x1 x2 u) Q x1 x2 u, fun r0 r1 r2 a => mn_v_7_forget_7b (fun r0 r1 r2 a => un_v_7_forget_7 a) (fun _ h => h) a, h⟩
theorem wp_v_7_forget_7 {Q1 Q2 : iST → Prop}  {x1 : Int} {x2 : Int} {u : iST} (hQ : ∀ r0, Q1 r0 → Q2 r0) : v_7_forget_7 Q1 x1 x2 u → pv_7_forget_7 Q2 x1 x2 u := fun a => a (fun x1 x2 u => pv_7_forget_7 Q2 x1 x2 u) (fun x1 x2 u b => fo_v_7_forget_7 (wp_v_7_forget_7b (fun r0 r1 r2 a => a) hQ b))
def pv_7_forget (a0 : Int) (Q : iST → Prop) (u : iST) : Prop :=
  rd (u.1 29) (fun v1 => 
  ovp (v1 - 1) (
  pv_7_forget_7 Q a0 (v1 - 1) u))
theorem cj_v_7_forget {Q1 Q2 Q3 : iST → Prop}  {a0 : Int} {u : iST} (hQ : ∀ r0, Q1 r0 → Q2 r0 → Q3 r0) : v_7_forget a0 Q1 u → pv_7_forget a0 Q2 u → v_7_forget a0 Q3 u := (rd_cj fun _ => (ov_cj (cj_v_7_forget_7  hQ)))
theorem mn_v_7_forget {Q1 Q2 : iST → Prop}  {a0 : Int} {u : iST} (hQ : ∀ r0, Q1 r0 → Q2 r0) : pv_7_forget a0 Q1 u → pv_7_forget a0 Q2 u := (rd_mn fun _ => (ov_mn (mn_v_7_forget_7  hQ)))
theorem wp_v_7_forget {Q1 Q2 : iST → Prop}  {a0 : Int} {u : iST} (hQ : ∀ r0, Q1 r0 → Q2 r0) : v_7_forget a0 Q1 u → pv_7_forget a0 Q2 u := (rd_wp fun _ => (ov_wp (wp_v_7_forget_7  hQ)))
def pv_10_hasCallOf_9b (R9 : Int → Int → Int → iST → Prop) (Q : Int → iST → Prop) (x2 : Int) (x3 : Int) (x4 : Int) (u : iST) : Prop :=
  br (x3 ≤ x4) (
    ztp 0 (Q 0 u)) (
    bdp x4 128 (rd (u.2.1 43 x4) (fun v2 => 
    pv_7_isCallOf v2 x2 (fun v3 u => 
    br (v3 = 0) (
      ovp (x4 + 1) (
      R9 x2 x3 (x4 + 1) u)) (
      ztp 1 (Q 1 u))) u)))
theorem cj_v_10_hasCallOf_9b {Q1 Q2 Q3 : Int → iST → Prop} {R91 R92 R93 : Int → Int → Int → iST → Prop} {x2 : Int} {x3 : Int} {x4 : Int} {u : iST} (hR9 : ∀ r0 r1 r2 r3, R91 r0 r1 r2 r3 → R92 r0 r1 r2 r3 → R93 r0 r1 r2 r3) (hQ : ∀ r0 r1, Q1 r0 r1 → Q2 r0 r1 → Q3 r0 r1) : v_10_hasCallOf_9b R91 Q1 x2 x3 x4 u → pv_10_hasCallOf_9b R92 Q2 x2 x3 x4 u → v_10_hasCallOf_9b R93 Q3 x2 x3 x4 u := (br_cj (zt_cj (hQ _ _)) (bd_cj (rd_cj fun _ => (cj_v_7_isCallOf (fun _ _ => (br_cj (ov_cj (hR9 _ _ _ _)) (zt_cj (hQ _ _))))))))
theorem mn_v_10_hasCallOf_9b {Q1 Q2 : Int → iST → Prop} {R91 R92 : Int → Int → Int → iST → Prop} {x2 : Int} {x3 : Int} {x4 : Int} {u : iST} (hR9 : ∀ r0 r1 r2 r3, R91 r0 r1 r2 r3 → R92 r0 r1 r2 r3) (hQ : ∀ r0 r1, Q1 r0 r1 → Q2 r0 r1) : pv_10_hasCallOf_9b R91 Q1 x2 x3 x4 u → pv_10_hasCallOf_9b R92 Q2 x2 x3 x4 u := (br_mn (zt_mn (hQ _ _)) (bd_mn (rd_mn fun _ => (mn_v_7_isCallOf (fun _ _ => (br_mn (ov_mn (hR9 _ _ _ _)) (zt_mn (hQ _ _))))))))
theorem wp_v_10_hasCallOf_9b {Q1 Q2 : Int → iST → Prop} {R91 R92 : Int → Int → Int → iST → Prop} {x2 : Int} {x3 : Int} {x4 : Int} {u : iST} (hR9 : ∀ r0 r1 r2 r3, R91 r0 r1 r2 r3 → R92 r0 r1 r2 r3) (hQ : ∀ r0 r1, Q1 r0 r1 → Q2 r0 r1) : v_10_hasCallOf_9b R91 Q1 x2 x3 x4 u → pv_10_hasCallOf_9b R92 Q2 x2 x3 x4 u := (br_wp (zt_wp (hQ _ _)) (bd_wp (rd_wp fun _ => (wp_v_7_isCallOf (fun _ _ => (br_wp (ov_wp (hR9 _ _ _ _)) (zt_wp (hQ _ _))))))))
def pv_10_hasCallOf_9 (Q : Int → iST → Prop) (x2 : Int) (x3 : Int) (x4 : Int) (u : iST) : Prop := ∃ R9 : Int → Int → Int → iST → Prop, (∀ (x2 : Int) (x3 : Int) (x4 : Int) (u : iST), R9 x2 x3 x4 u → pv_10_hasCallOf_9b R9 Q x2 x3 x4 u) ∧ R9 x2 x3 x4 u
theorem cj_v_10_hasCallOf_9 {Q1 Q2 Q3 : Int → iST → Prop}  {x2 : Int} {x3 : Int} {x4 : Int} {u : iST} (hQ : ∀ r0 r1, Q1 r0 r1 → Q2 r0 r1 → Q3 r0 r1) : v_10_hasCallOf_9 Q1 x2 x3 x4 u → pv_10_hasCallOf_9 Q2 x2 x3 x4 u → v_10_hasCallOf_9 Q3 x2 x3 x4 u := by
  intro a b R3 c3
  obtain ⟨R2, c2, b2⟩ := b
  exact a (fun r0 r1 r2 r3 => R2 r0 r1 r2 r3 → R3 r0 r1 r2 r3) (fun r0 r1 r2 r3 a b => c3 r0 r1 r2 r3 (cj_v_10_hasCallOf_9b (fun r0 r1 r2 r3 a b => a b) hQ a (c2 r0 r1 r2 r3 b))) b2
theorem pv_10_hasCallOf_9_i  {Q : Int → iST → Prop} {x2 : Int} {x3 : Int} {x4 : Int} {u : iST} (I : Int → Int → Int → iST → Prop) (s : ∀ (x2 : Int) (x3 : Int) (x4 : Int) (u : iST), I x2 x3 x4 u → pv_10_hasCallOf_9b I Q x2 x3 x4 u) (h : I x2 x3 x4 u) : pv_10_hasCallOf_9 Q x2 x3 x4 u := ⟨I, s, h⟩
theorem mn_v_10_hasCallOf_9 {Q1 Q2 : Int → iST → Prop}  {x2 : Int} {x3 : Int} {x4 : Int} {u : iST} (hQ : ∀ r0 r1, Q1 r0 r1 → Q2 r0 r1) : pv_10_hasCallOf_9 Q1 x2 x3 x4 u → pv_10_hasCallOf_9 Q2 x2 x3 x4 u := fun ⟨R, s, h⟩ => ⟨R, fun r0 r1 r2 r3 a => mn_v_10_hasCallOf_9b (fun r0 r1 r2 r3 a => a) hQ (s r0 r1 r2 r3 a), h⟩
theorem un_v_10_hasCallOf_9  {Q : Int → iST → Prop} {x2 : Int} {x3 : Int} {x4 : Int} {u : iST} : pv_10_hasCallOf_9 Q x2 x3 x4 u → pv_10_hasCallOf_9b (fun x2 x3 x4 u => pv_10_hasCallOf_9 Q x2 x3 x4 u) Q x2 x3 x4 u := fun ⟨R, s, h⟩ => mn_v_10_hasCallOf_9b (fun r0 r1 r2 r3 a => ⟨R, s, a⟩) (fun _ _ h => h) (s _ _ _ _ h)
theorem fo_v_10_hasCallOf_9  {Q : Int → iST → Prop} {x2 : Int} {x3 : Int} {x4 : Int} {u : iST} : pv_10_hasCallOf_9b (fun x2 x3 x4 u => pv_10_hasCallOf_9 Q x2 x3 x4 u) Q x2 x3 x4 u → pv_10_hasCallOf_9 Q x2 x3 x4 u := fun h => ⟨fun x2 x3 x4 u => pv_10_hasCallOf_9b (fun x2 x3 x4 u => pv_10_hasCallOf_9 Q x2 x3 x4 u) Q x2 x3 x4 u, fun r0 r1 r2 r3 a => mn_v_10_hasCallOf_9b (fun r0 r1 r2 r3 a => un_v_10_hasCallOf_9 a) (fun _ _ h => h) a, h⟩
theorem wp_v_10_hasCallOf_9 {Q1 Q2 : Int → iST → Prop}  {x2 : Int} {x3 : Int} {x4 : Int} {u : iST} (hQ : ∀ r0 r1, Q1 r0 r1 → Q2 r0 r1) : v_10_hasCallOf_9 Q1 x2 x3 x4 u → pv_10_hasCallOf_9 Q2 x2 x3 x4 u := fun a => a (fun x2 x3 x4 u => pv_10_hasCallOf_9 Q2 x2 x3 x4 u) (fun x2 x3 x4 u b => fo_v_10_hasCallOf_9 (wp_v_10_hasCallOf_9b (fun r0 r1 r2 r3 a => a) hQ b))
def pv_10_hasCallOf (a0 : Int) (a1 : Int) (Q : Int → iST → Prop) (u : iST) : Prop :=
  pv_10_listParts a0 (fun v1 u => 
  pv_10_hasCallOf_9 Q a1 v1 0 u) u
theorem cj_v_10_hasCallOf {Q1 Q2 Q3 : Int → iST → Prop}  {a0 : Int} {a1 : Int} {u : iST} (hQ : ∀ r0 r1, Q1 r0 r1 → Q2 r0 r1 → Q3 r0 r1) : v_10_hasCallOf a0 a1 Q1 u → pv_10_hasCallOf a0 a1 Q2 u → v_10_hasCallOf a0 a1 Q3 u := (cj_v_10_listParts (fun _ _ => (cj_v_10_hasCallOf_9  hQ)))
theorem mn_v_10_hasCallOf {Q1 Q2 : Int → iST → Prop}  {a0 : Int} {a1 : Int} {u : iST} (hQ : ∀ r0 r1, Q1 r0 r1 → Q2 r0 r1) : pv_10_hasCallOf a0 a1 Q1 u → pv_10_hasCallOf a0 a1 Q2 u := (mn_v_10_listParts (fun _ _ => (mn_v_10_hasCallOf_9  hQ)))
theorem wp_v_10_hasCallOf {Q1 Q2 : Int → iST → Prop}  {a0 : Int} {a1 : Int} {u : iST} (hQ : ∀ r0 r1, Q1 r0 r1 → Q2 r0 r1) : v_10_hasCallOf a0 a1 Q1 u → pv_10_hasCallOf a0 a1 Q2 u := (wp_v_10_listParts (fun _ _ => (wp_v_10_hasCallOf_9  hQ)))
def pv_8_isFlat_99b (R9 : Int → Int → Int → iST → Prop) (R74 : Int → Int → Int → iST → Prop) (R99 : Int → Int → Int → Int → iST → Prop) (Q : Int → iST → Prop) (x1 : Int) (x4 : Int) (x5 : Int) (x6 : Int) (u : iST) : Prop :=
  pv_7_isPair x6 (fun v9 u => 
  br (v9 = 0) (
    ovp (x5 + 1) (
    R74 x1 x4 (x5 + 1) u)) (
    pv_7_left x6 (fun v11 u => 
    pv_10_hasCallOf v11 x1 (fun v12 u => 
    br (v12 = 0) (
      pv_7_right x6 (fun v13 u => 
      R99 x1 x4 x5 v13 u) u) (
      ztp 0 (Q 0 u))) u) u)) u
theorem cj_v_8_isFlat_99b {Q1 Q2 Q3 : Int → iST → Prop} {R91 R92 R93 : Int → Int → Int → iST → Prop} {R741 R742 R743 : Int → Int → Int → iST → Prop} {R991 R992 R993 : Int → Int → Int → Int → iST → Prop} {x1 : Int} {x4 : Int} {x5 : Int} {x6 : Int} {u : iST} (hR9 : ∀ r0 r1 r2 r3, R91 r0 r1 r2 r3 → R92 r0 r1 r2 r3 → R93 r0 r1 r2 r3) (hR74 : ∀ r0 r1 r2 r3, R741 r0 r1 r2 r3 → R742 r0 r1 r2 r3 → R743 r0 r1 r2 r3) (hR99 : ∀ r0 r1 r2 r3 r4, R991 r0 r1 r2 r3 r4 → R992 r0 r1 r2 r3 r4 → R993 r0 r1 r2 r3 r4) (hQ : ∀ r0 r1, Q1 r0 r1 → Q2 r0 r1 → Q3 r0 r1) : v_8_isFlat_99b R91 R741 R991 Q1 x1 x4 x5 x6 u → pv_8_isFlat_99b R92 R742 R992 Q2 x1 x4 x5 x6 u → v_8_isFlat_99b R93 R743 R993 Q3 x1 x4 x5 x6 u := (cj_v_7_isPair (fun _ _ => (br_cj (ov_cj (hR74 _ _ _ _)) (cj_v_7_left (fun _ _ => (cj_v_10_hasCallOf (fun _ _ => (br_cj (cj_v_7_right (fun _ _ => (hR99 _ _ _ _ _))) (zt_cj (hQ _ _))))))))))
theorem mn_v_8_isFlat_99b {Q1 Q2 : Int → iST → Prop} {R91 R92 : Int → Int → Int → iST → Prop} {R741 R742 : Int → Int → Int → iST → Prop} {R991 R992 : Int → Int → Int → Int → iST → Prop} {x1 : Int} {x4 : Int} {x5 : Int} {x6 : Int} {u : iST} (hR9 : ∀ r0 r1 r2 r3, R91 r0 r1 r2 r3 → R92 r0 r1 r2 r3) (hR74 : ∀ r0 r1 r2 r3, R741 r0 r1 r2 r3 → R742 r0 r1 r2 r3) (hR99 : ∀ r0 r1 r2 r3 r4, R991 r0 r1 r2 r3 r4 → R992 r0 r1 r2 r3 r4) (hQ : ∀ r0 r1, Q1 r0 r1 → Q2 r0 r1) : pv_8_isFlat_99b R91 R741 R991 Q1 x1 x4 x5 x6 u → pv_8_isFlat_99b R92 R742 R992 Q2 x1 x4 x5 x6 u := (mn_v_7_isPair (fun _ _ => (br_mn (ov_mn (hR74 _ _ _ _)) (mn_v_7_left (fun _ _ => (mn_v_10_hasCallOf (fun _ _ => (br_mn (mn_v_7_right (fun _ _ => (hR99 _ _ _ _ _))) (zt_mn (hQ _ _))))))))))
theorem wp_v_8_isFlat_99b {Q1 Q2 : Int → iST → Prop} {R91 R92 : Int → Int → Int → iST → Prop} {R741 R742 : Int → Int → Int → iST → Prop} {R991 R992 : Int → Int → Int → Int → iST → Prop} {x1 : Int} {x4 : Int} {x5 : Int} {x6 : Int} {u : iST} (hR9 : ∀ r0 r1 r2 r3, R91 r0 r1 r2 r3 → R92 r0 r1 r2 r3) (hR74 : ∀ r0 r1 r2 r3, R741 r0 r1 r2 r3 → R742 r0 r1 r2 r3) (hR99 : ∀ r0 r1 r2 r3 r4, R991 r0 r1 r2 r3 r4 → R992 r0 r1 r2 r3 r4) (hQ : ∀ r0 r1, Q1 r0 r1 → Q2 r0 r1) : v_8_isFlat_99b R91 R741 R991 Q1 x1 x4 x5 x6 u → pv_8_isFlat_99b R92 R742 R992 Q2 x1 x4 x5 x6 u := (wp_v_7_isPair (fun _ _ => (br_wp (ov_wp (hR74 _ _ _ _)) (wp_v_7_left (fun _ _ => (wp_v_10_hasCallOf (fun _ _ => (br_wp (wp_v_7_right (fun _ _ => (hR99 _ _ _ _ _))) (zt_wp (hQ _ _))))))))))
def pv_8_isFlat_99 (R9 : Int → Int → Int → iST → Prop) (R74 : Int → Int → Int → iST → Prop) (Q : Int → iST → Prop) (x1 : Int) (x4 : Int) (x5 : Int) (x6 : Int) (u : iST) : Prop := ∃ R99 : Int → Int → Int → Int → iST → Prop, (∀ (x1 : Int) (x4 : Int) (x5 : Int) (x6 : Int) (u : iST), R99 x1 x4 x5 x6 u → pv_8_isFlat_99b R9 R74 R99 Q x1 x4 x5 x6 u) ∧ R99 x1 x4 x5 x6 u
theorem cj_v_8_isFlat_99 {Q1 Q2 Q3 : Int → iST → Prop} {R91 R92 R93 : Int → Int → Int → iST → Prop} {R741 R742 R743 : Int → Int → Int → iST → Prop} {x1 : Int} {x4 : Int} {x5 : Int} {x6 : Int} {u : iST} (hR9 : ∀ r0 r1 r2 r3, R91 r0 r1 r2 r3 → R92 r0 r1 r2 r3 → R93 r0 r1 r2 r3) (hR74 : ∀ r0 r1 r2 r3, R741 r0 r1 r2 r3 → R742 r0 r1 r2 r3 → R743 r0 r1 r2 r3) (hQ : ∀ r0 r1, Q1 r0 r1 → Q2 r0 r1 → Q3 r0 r1) : v_8_isFlat_99 R91 R741 Q1 x1 x4 x5 x6 u → pv_8_isFlat_99 R92 R742 Q2 x1 x4 x5 x6 u → v_8_isFlat_99 R93 R743 Q3 x1 x4 x5 x6 u := by
  intro a b R3 c3
  obtain ⟨R2, c2, b2⟩ := b
  exact a (fun r0 r1 r2 r3 r4 => R2 r0 r1 r2 r3 r4 → R3 r0 r1 r2 r3 r4) (fun r0 r1 r2 r3 r4 a b => c3 r0 r1 r2 r3 r4 (cj_v_8_isFlat_99b hR9 hR74 (fun r0 r1 r2 r3 r4 a b => a b) hQ a (c2 r0 r1 r2 r3 r4 b))) b2
theorem pv_8_isFlat_99_i {R9 : Int → Int → Int → iST → Prop} {R74 : Int → Int → Int → iST → Prop} {Q : Int → iST → Prop} {x1 : Int} {x4 : Int} {x5 : Int} {x6 : Int} {u : iST} (I : Int → Int → Int → Int → iST → Prop) (s : ∀ (x1 : Int) (x4 : Int) (x5 : Int) (x6 : Int) (u : iST), I x1 x4 x5 x6 u → pv_8_isFlat_99b R9 R74 I Q x1 x4 x5 x6 u) (h : I x1 x4 x5 x6 u) : pv_8_isFlat_99 R9 R74 Q x1 x4 x5 x6 u := ⟨I, s, h⟩
theorem mn_v_8_isFlat_99 {Q1 Q2 : Int → iST → Prop} {R91 R92 : Int → Int → Int → iST → Prop} {R741 R742 : Int → Int → Int → iST → Prop} {x1 : Int} {x4 : Int} {x5 : Int} {x6 : Int} {u : iST} (hR9 : ∀ r0 r1 r2 r3, R91 r0 r1 r2 r3 → R92 r0 r1 r2 r3) (hR74 : ∀ r0 r1 r2 r3, R741 r0 r1 r2 r3 → R742 r0 r1 r2 r3) (hQ : ∀ r0 r1, Q1 r0 r1 → Q2 r0 r1) : pv_8_isFlat_99 R91 R741 Q1 x1 x4 x5 x6 u → pv_8_isFlat_99 R92 R742 Q2 x1 x4 x5 x6 u := fun ⟨R, s, h⟩ => ⟨R, fun r0 r1 r2 r3 r4 a => mn_v_8_isFlat_99b hR9 hR74 (fun r0 r1 r2 r3 r4 a => a) hQ (s r0 r1 r2 r3 r4 a), h⟩
theorem un_v_8_isFlat_99 {R9 : Int → Int → Int → iST → Prop} {R74 : Int → Int → Int → iST → Prop} {Q : Int → iST → Prop} {x1 : Int} {x4 : Int} {x5 : Int} {x6 : Int} {u : iST} : pv_8_isFlat_99 R9 R74 Q x1 x4 x5 x6 u → pv_8_isFlat_99b R9 R74 (fun x1 x4 x5 x6 u => pv_8_isFlat_99 R9 R74 Q x1 x4 x5 x6 u) Q x1 x4 x5 x6 u := fun ⟨R, s, h⟩ => mn_v_8_isFlat_99b (fun _ _ _ _ h => h) (fun _ _ _ _ h => h) (fun r0 r1 r2 r3 r4 a => ⟨R, s, a⟩) (fun _ _ h => h) (s _ _ _ _ _ h)
theorem fo_v_8_isFlat_99 {R9 : Int → Int → Int → iST → Prop} {R74 : Int → Int → Int → iST → Prop} {Q : Int → iST → Prop} {x1 : Int} {x4 : Int} {x5 : Int} {x6 : Int} {u : iST} : pv_8_isFlat_99b R9 R74 (fun x1 x4 x5 x6 u => pv_8_isFlat_99 R9 R74 Q x1 x4 x5 x6 u) Q x1 x4 x5 x6 u → pv_8_isFlat_99 R9 R74 Q x1 x4 x5 x6 u := fun h => ⟨fun x1 x4 x5 x6 u => pv_8_isFlat_99b R9 R74 (fun x1 x4 x5 x6 u => pv_8_isFlat_99 R9 R74 Q x1 x4 x5 x6 u) Q x1 x4 x5 x6 u, fun r0 r1 r2 r3 r4 a => mn_v_8_isFlat_99b (fun _ _ _ _ h => h) (fun _ _ _ _ h => h) (fun r0 r1 r2 r3 r4 a => un_v_8_isFlat_99 a) (fun _ _ h => h) a, h⟩
theorem wp_v_8_isFlat_99 {Q1 Q2 : Int → iST → Prop} {R91 R92 : Int → Int → Int → iST → Prop} {R741 R742 : Int → Int → Int → iST → Prop} {x1 : Int} {x4 : Int} {x5 : Int} {x6 : Int} {u : iST} (hR9 : ∀ r0 r1 r2 r3, R91 r0 r1 r2 r3 → R92 r0 r1 r2 r3) (hR74 : ∀ r0 r1 r2 r3, R741 r0 r1 r2 r3 → R742 r0 r1 r2 r3) (hQ : ∀ r0 r1, Q1 r0 r1 → Q2 r0 r1) : v_8_isFlat_99 R91 R741 Q1 x1 x4 x5 x6 u → pv_8_isFlat_99 R92 R742 Q2 x1 x4 x5 x6 u := fun a => a (fun x1 x4 x5 x6 u => pv_8_isFlat_99 R92 R742 Q2 x1 x4 x5 x6 u) (fun x1 x4 x5 x6 u b => fo_v_8_isFlat_99 (wp_v_8_isFlat_99b hR9 hR74 (fun r0 r1 r2 r3 r4 a => a) hQ b))
def pv_8_isFlat_74b (R9 : Int → Int → Int → iST → Prop) (R74 : Int → Int → Int → iST → Prop) (Q : Int → iST → Prop) (x1 : Int) (x4 : Int) (x5 : Int) (u : iST) : Prop :=
  rd (u.1 35) (fun v4 => 
  br (v4 ≤ x5) (
    pv_8_goToPath (-1) (fun v5 u => 
    ovp (x4 + 1) (
    R9 x1 v5 (x4 + 1) u)) u) (
    bdp x5 128 (rd (u.2.1 33 x5) (fun v7 => 
    pv_7_right v7 (fun v8 u => 
    pv_8_isFlat_99 R9 R74 Q x1 x4 x5 v8 u) u))))
theorem cj_v_8_isFlat_74b {Q1 Q2 Q3 : Int → iST → Prop} {R91 R92 R93 : Int → Int → Int → iST → Prop} {R741 R742 R743 : Int → Int → Int → iST → Prop} {x1 : Int} {x4 : Int} {x5 : Int} {u : iST} (hR9 : ∀ r0 r1 r2 r3, R91 r0 r1 r2 r3 → R92 r0 r1 r2 r3 → R93 r0 r1 r2 r3) (hR74 : ∀ r0 r1 r2 r3, R741 r0 r1 r2 r3 → R742 r0 r1 r2 r3 → R743 r0 r1 r2 r3) (hQ : ∀ r0 r1, Q1 r0 r1 → Q2 r0 r1 → Q3 r0 r1) : v_8_isFlat_74b R91 R741 Q1 x1 x4 x5 u → pv_8_isFlat_74b R92 R742 Q2 x1 x4 x5 u → v_8_isFlat_74b R93 R743 Q3 x1 x4 x5 u := (rd_cj fun _ => (br_cj (cj_v_8_goToPath (fun _ _ => (ov_cj (hR9 _ _ _ _)))) (bd_cj (rd_cj fun _ => (cj_v_7_right (fun _ _ => (cj_v_8_isFlat_99 hR9 hR74 hQ)))))))
theorem mn_v_8_isFlat_74b {Q1 Q2 : Int → iST → Prop} {R91 R92 : Int → Int → Int → iST → Prop} {R741 R742 : Int → Int → Int → iST → Prop} {x1 : Int} {x4 : Int} {x5 : Int} {u : iST} (hR9 : ∀ r0 r1 r2 r3, R91 r0 r1 r2 r3 → R92 r0 r1 r2 r3) (hR74 : ∀ r0 r1 r2 r3, R741 r0 r1 r2 r3 → R742 r0 r1 r2 r3) (hQ : ∀ r0 r1, Q1 r0 r1 → Q2 r0 r1) : pv_8_isFlat_74b R91 R741 Q1 x1 x4 x5 u → pv_8_isFlat_74b R92 R742 Q2 x1 x4 x5 u := (rd_mn fun _ => (br_mn (mn_v_8_goToPath (fun _ _ => (ov_mn (hR9 _ _ _ _)))) (bd_mn (rd_mn fun _ => (mn_v_7_right (fun _ _ => (mn_v_8_isFlat_99 hR9 hR74 hQ)))))))
theorem wp_v_8_isFlat_74b {Q1 Q2 : Int → iST → Prop} {R91 R92 : Int → Int → Int → iST → Prop} {R741 R742 : Int → Int → Int → iST → Prop} {x1 : Int} {x4 : Int} {x5 : Int} {u : iST} (hR9 : ∀ r0 r1 r2 r3, R91 r0 r1 r2 r3 → R92 r0 r1 r2 r3) (hR74 : ∀ r0 r1 r2 r3, R741 r0 r1 r2 r3 → R742 r0 r1 r2 r3) (hQ : ∀ r0 r1, Q1 r0 r1 → Q2 r0 r1) : v_8_isFlat_74b R91 R741 Q1 x1 x4 x5 u → pv_8_isFlat_74b R92 R742 Q2 x1 x4 x5 u := (rd_wp fun _ => (br_wp (wp_v_8_goToPath (fun _ _ => (ov_wp (hR9 _ _ _ _)))) (bd_wp (rd_wp fun _ => (wp_v_7_right (fun _ _ => (wp_v_8_isFlat_99 hR9 hR74 hQ)))))))
def pv_8_isFlat_74 (R9 : Int → Int → Int → iST → Prop) (Q : Int → iST → Prop) (x1 : Int) (x4 : Int) (x5 : Int) (u : iST) : Prop := ∃ R74 : Int → Int → Int → iST → Prop, (∀ (x1 : Int) (x4 : Int) (x5 : Int) (u : iST), R74 x1 x4 x5 u → pv_8_isFlat_74b R9 R74 Q x1 x4 x5 u) ∧ R74 x1 x4 x5 u
theorem cj_v_8_isFlat_74 {Q1 Q2 Q3 : Int → iST → Prop} {R91 R92 R93 : Int → Int → Int → iST → Prop} {x1 : Int} {x4 : Int} {x5 : Int} {u : iST} (hR9 : ∀ r0 r1 r2 r3, R91 r0 r1 r2 r3 → R92 r0 r1 r2 r3 → R93 r0 r1 r2 r3) (hQ : ∀ r0 r1, Q1 r0 r1 → Q2 r0 r1 → Q3 r0 r1) : v_8_isFlat_74 R91 Q1 x1 x4 x5 u → pv_8_isFlat_74 R92 Q2 x1 x4 x5 u → v_8_isFlat_74 R93 Q3 x1 x4 x5 u := by
  intro a b R3 c3
  obtain ⟨R2, c2, b2⟩ := b
  exact a (fun r0 r1 r2 r3 => R2 r0 r1 r2 r3 → R3 r0 r1 r2 r3) (fun r0 r1 r2 r3 a b => c3 r0 r1 r2 r3 (cj_v_8_isFlat_74b hR9 (fun r0 r1 r2 r3 a b => a b) hQ a (c2 r0 r1 r2 r3 b))) b2
theorem pv_8_isFlat_74_i {R9 : Int → Int → Int → iST → Prop} {Q : Int → iST → Prop} {x1 : Int} {x4 : Int} {x5 : Int} {u : iST} (I : Int → Int → Int → iST → Prop) (s : ∀ (x1 : Int) (x4 : Int) (x5 : Int) (u : iST), I x1 x4 x5 u → pv_8_isFlat_74b R9 I Q x1 x4 x5 u) (h : I x1 x4 x5 u) : pv_8_isFlat_74 R9 Q x1 x4 x5 u := ⟨I, s, h⟩
theorem mn_v_8_isFlat_74 {Q1 Q2 : Int → iST → Prop} {R91 R92 : Int → Int → Int → iST → Prop} {x1 : Int} {x4 : Int} {x5 : Int} {u : iST} (hR9 : ∀ r0 r1 r2 r3, R91 r0 r1 r2 r3 → R92 r0 r1 r2 r3) (hQ : ∀ r0 r1, Q1 r0 r1 → Q2 r0 r1) : pv_8_isFlat_74 R91 Q1 x1 x4 x5 u → pv_8_isFlat_74 R92 Q2 x1 x4 x5 u := fun ⟨R, s, h⟩ => ⟨R, fun r0 r1 r2 r3 a => mn_v_8_isFlat_74b hR9 (fun r0 r1 r2 r3 a => a) hQ (s r0 r1 r2 r3 a), h⟩
theorem un_v_8_isFlat_74 {R9 : Int → Int → Int → iST → Prop} {Q : Int → iST → Prop} {x1 : Int} {x4 : Int} {x5 : Int} {u : iST} : pv_8_isFlat_74 R9 Q x1 x4 x5 u → pv_8_isFlat_74b R9 (fun x1 x4 x5 u => pv_8_isFlat_74 R9 Q x1 x4 x5 u) Q x1 x4 x5 u := fun ⟨R, s, h⟩ => mn_v_8_isFlat_74b (fun _ _ _ _ h => h) (fun r0 r1 r2 r3 a => ⟨R, s, a⟩) (fun _ _ h => h) (s _ _ _ _ h)
theorem fo_v_8_isFlat_74 {R9 : Int → Int → Int → iST → Prop} {Q : Int → iST → Prop} {x1 : Int} {x4 : Int} {x5 : Int} {u : iST} : pv_8_isFlat_74b R9 (fun x1 x4 x5 u => pv_8_isFlat_74 R9 Q x1 x4 x5 u) Q x1 x4 x5 u → pv_8_isFlat_74 R9 Q x1 x4 x5 u := fun h => ⟨fun x1 x4 x5 u => pv_8_isFlat_74b R9 (fun x1 x4 x5 u => pv_8_isFlat_74 R9 Q x1 x4 x5 u) Q x1 x4 x5 u, fun r0 r1 r2 r3 a => mn_v_8_isFlat_74b (fun _ _ _ _ h => h) (fun r0 r1 r2 r3 a => un_v_8_isFlat_74 a) (fun _ _ h => h) a, h⟩
theorem wp_v_8_isFlat_74 {Q1 Q2 : Int → iST → Prop} {R91 R92 : Int → Int → Int → iST → Prop} {x1 : Int} {x4 : Int} {x5 : Int} {u : iST} (hR9 : ∀ r0 r1 r2 r3, R91 r0 r1 r2 r3 → R92 r0 r1 r2 r3) (hQ : ∀ r0 r1, Q1 r0 r1 → Q2 r0 r1) : v_8_isFlat_74 R91 Q1 x1 x4 x5 u → pv_8_isFlat_74 R92 Q2 x1 x4 x5 u := fun a => a (fun x1 x4 x5 u => pv_8_isFlat_74 R92 Q2 x1 x4 x5 u) (fun x1 x4 x5 u b => fo_v_8_isFlat_74 (wp_v_8_isFlat_74b hR9 (fun r0 r1 r2 r3 a => a) hQ b))
def pv_8_isFlat_23b (R9 : Int → Int → Int → iST → Prop) (R23 : Int → Int → Int → iST → Prop) (Q : Int → iST → Prop) (x1 : Int) (x4 : Int) (x5 : Int) (u : iST) : Prop :=
  rd (u.1 33) (fun v2 => 
  br (v2 ≤ x5) (
    pv_8_listCalls x1 (fun u => 
    pv_8_isFlat_74 R9 Q x1 x4 0 u) u) (
    bdp x5 64 (rd (u.2.1 31 x5) (fun v14 => 
    pv_7_item v14 1 (fun v15 u => 
    pv_10_hasCallOf v15 x1 (fun v16 u => 
    br (v16 = 0) (
      ovp (x5 + 1) (
      R23 x1 x4 (x5 + 1) u)) (
      ztp 0 (Q 0 u))) u) u))))
theorem cj_v_8_isFlat_23b {Q1 Q2 Q3 : Int → iST → Prop} {R91 R92 R93 : Int → Int → Int → iST → Prop} {R231 R232 R233 : Int → Int → Int → iST → Prop} {x1 : Int} {x4 : Int} {x5 : Int} {u : iST} (hR9 : ∀ r0 r1 r2 r3, R91 r0 r1 r2 r3 → R92 r0 r1 r2 r3 → R93 r0 r1 r2 r3) (hR23 : ∀ r0 r1 r2 r3, R231 r0 r1 r2 r3 → R232 r0 r1 r2 r3 → R233 r0 r1 r2 r3) (hQ : ∀ r0 r1, Q1 r0 r1 → Q2 r0 r1 → Q3 r0 r1) : v_8_isFlat_23b R91 R231 Q1 x1 x4 x5 u → pv_8_isFlat_23b R92 R232 Q2 x1 x4 x5 u → v_8_isFlat_23b R93 R233 Q3 x1 x4 x5 u := (rd_cj fun _ => (br_cj (cj_v_8_listCalls (fun _ => (cj_v_8_isFlat_74 hR9 hQ))) (bd_cj (rd_cj fun _ => (cj_v_7_item (fun _ _ => (cj_v_10_hasCallOf (fun _ _ => (br_cj (ov_cj (hR23 _ _ _ _)) (zt_cj (hQ _ _)))))))))))
theorem mn_v_8_isFlat_23b {Q1 Q2 : Int → iST → Prop} {R91 R92 : Int → Int → Int → iST → Prop} {R231 R232 : Int → Int → Int → iST → Prop} {x1 : Int} {x4 : Int} {x5 : Int} {u : iST} (hR9 : ∀ r0 r1 r2 r3, R91 r0 r1 r2 r3 → R92 r0 r1 r2 r3) (hR23 : ∀ r0 r1 r2 r3, R231 r0 r1 r2 r3 → R232 r0 r1 r2 r3) (hQ : ∀ r0 r1, Q1 r0 r1 → Q2 r0 r1) : pv_8_isFlat_23b R91 R231 Q1 x1 x4 x5 u → pv_8_isFlat_23b R92 R232 Q2 x1 x4 x5 u := (rd_mn fun _ => (br_mn (mn_v_8_listCalls (fun _ => (mn_v_8_isFlat_74 hR9 hQ))) (bd_mn (rd_mn fun _ => (mn_v_7_item (fun _ _ => (mn_v_10_hasCallOf (fun _ _ => (br_mn (ov_mn (hR23 _ _ _ _)) (zt_mn (hQ _ _)))))))))))
theorem wp_v_8_isFlat_23b {Q1 Q2 : Int → iST → Prop} {R91 R92 : Int → Int → Int → iST → Prop} {R231 R232 : Int → Int → Int → iST → Prop} {x1 : Int} {x4 : Int} {x5 : Int} {u : iST} (hR9 : ∀ r0 r1 r2 r3, R91 r0 r1 r2 r3 → R92 r0 r1 r2 r3) (hR23 : ∀ r0 r1 r2 r3, R231 r0 r1 r2 r3 → R232 r0 r1 r2 r3) (hQ : ∀ r0 r1, Q1 r0 r1 → Q2 r0 r1) : v_8_isFlat_23b R91 R231 Q1 x1 x4 x5 u → pv_8_isFlat_23b R92 R232 Q2 x1 x4 x5 u := (rd_wp fun _ => (br_wp (wp_v_8_listCalls (fun _ => (wp_v_8_isFlat_74 hR9 hQ))) (bd_wp (rd_wp fun _ => (wp_v_7_item (fun _ _ => (wp_v_10_hasCallOf (fun _ _ => (br_wp (ov_wp (hR23 _ _ _ _)) (zt_wp (hQ _ _)))))))))))
def pv_8_isFlat_23 (R9 : Int → Int → Int → iST → Prop) (Q : Int → iST → Prop) (x1 : Int) (x4 : Int) (x5 : Int) (u : iST) : Prop := ∃ R23 : Int → Int → Int → iST → Prop, (∀ (x1 : Int) (x4 : Int) (x5 : Int) (u : iST), R23 x1 x4 x5 u → pv_8_isFlat_23b R9 R23 Q x1 x4 x5 u) ∧ R23 x1 x4 x5 u
theorem cj_v_8_isFlat_23 {Q1 Q2 Q3 : Int → iST → Prop} {R91 R92 R93 : Int → Int → Int → iST → Prop} {x1 : Int} {x4 : Int} {x5 : Int} {u : iST} (hR9 : ∀ r0 r1 r2 r3, R91 r0 r1 r2 r3 → R92 r0 r1 r2 r3 → R93 r0 r1 r2 r3) (hQ : ∀ r0 r1, Q1 r0 r1 → Q2 r0 r1 → Q3 r0 r1) : v_8_isFlat_23 R91 Q1 x1 x4 x5 u → pv_8_isFlat_23 R92 Q2 x1 x4 x5 u → v_8_isFlat_23 R93 Q3 x1 x4 x5 u := by
  intro a b R3 c3
  obtain ⟨R2, c2, b2⟩ := b
  exact a (fun r0 r1 r2 r3 => R2 r0 r1 r2 r3 → R3 r0 r1 r2 r3) (fun r0 r1 r2 r3 a b => c3 r0 r1 r2 r3 (cj_v_8_isFlat_23b hR9 (fun r0 r1 r2 r3 a b => a b) hQ a (c2 r0 r1 r2 r3 b))) b2
theorem pv_8_isFlat_23_i {R9 : Int → Int → Int → iST → Prop} {Q : Int → iST → Prop} {x1 : Int} {x4 : Int} {x5 : Int} {u : iST} (I : Int → Int → Int → iST → Prop) (s : ∀ (x1 : Int) (x4 : Int) (x5 : Int) (u : iST), I x1 x4 x5 u → pv_8_isFlat_23b R9 I Q x1 x4 x5 u) (h : I x1 x4 x5 u) : pv_8_isFlat_23 R9 Q x1 x4 x5 u := ⟨I, s, h⟩
theorem mn_v_8_isFlat_23 {Q1 Q2 : Int → iST → Prop} {R91 R92 : Int → Int → Int → iST → Prop} {x1 : Int} {x4 : Int} {x5 : Int} {u : iST} (hR9 : ∀ r0 r1 r2 r3, R91 r0 r1 r2 r3 → R92 r0 r1 r2 r3) (hQ : ∀ r0 r1, Q1 r0 r1 → Q2 r0 r1) : pv_8_isFlat_23 R91 Q1 x1 x4 x5 u → pv_8_isFlat_23 R92 Q2 x1 x4 x5 u := fun ⟨R, s, h⟩ => ⟨R, fun r0 r1 r2 r3 a => mn_v_8_isFlat_23b hR9 (fun r0 r1 r2 r3 a => a) hQ (s r0 r1 r2 r3 a), h⟩
theorem un_v_8_isFlat_23 {R9 : Int → Int → Int → iST → Prop} {Q : Int → iST → Prop} {x1 : Int} {x4 : Int} {x5 : Int} {u : iST} : pv_8_isFlat_23 R9 Q x1 x4 x5 u → pv_8_isFlat_23b R9 (fun x1 x4 x5 u => pv_8_isFlat_23 R9 Q x1 x4 x5 u) Q x1 x4 x5 u := fun ⟨R, s, h⟩ => mn_v_8_isFlat_23b (fun _ _ _ _ h => h) (fun r0 r1 r2 r3 a => ⟨R, s, a⟩) (fun _ _ h => h) (s _ _ _ _ h)
theorem fo_v_8_isFlat_23 {R9 : Int → Int → Int → iST → Prop} {Q : Int → iST → Prop} {x1 : Int} {x4 : Int} {x5 : Int} {u : iST} : pv_8_isFlat_23b R9 (fun x1 x4 x5 u => pv_8_isFlat_23 R9 Q x1 x4 x5 u) Q x1 x4 x5 u → pv_8_isFlat_23 R9 Q x1 x4 x5 u := fun h => ⟨fun x1 x4 x5 u => pv_8_isFlat_23b R9 (fun x1 x4 x5 u => pv_8_isFlat_23 R9 Q x1 x4 x5 u) Q x1 x4 x5 u, fun r0 r1 r2 r3 a => mn_v_8_isFlat_23b (fun _ _ _ _ h => h) (fun r0 r1 r2 r3 a => un_v_8_isFlat_23 a) (fun _ _ h => h) a, h⟩
theorem wp_v_8_isFlat_23 {Q1 Q2 : Int → iST → Prop} {R91 R92 : Int → Int → Int → iST → Prop} {x1 : Int} {x4 : Int} {x5 : Int} {u : iST} (hR9 : ∀ r0 r1 r2 r3, R91 r0 r1 r2 r3 → R92 r0 r1 r2 r3) (hQ : ∀ r0 r1, Q1 r0 r1 → Q2 r0 r1) : v_8_isFlat_23 R91 Q1 x1 x4 x5 u → pv_8_isFlat_23 R92 Q2 x1 x4 x5 u := fun a => a (fun x1 x4 x5 u => pv_8_isFlat_23 R92 Q2 x1 x4 x5 u) (fun x1 x4 x5 u b => fo_v_8_isFlat_23 (wp_v_8_isFlat_23b hR9 (fun r0 r1 r2 r3 a => a) hQ b))
def pv_8_isFlat_9b (R9 : Int → Int → Int → iST → Prop) (Q : Int → iST → Prop) (x1 : Int) (x3 : Int) (x4 : Int) (u : iST) : Prop :=
  br (1000000 ≤ x4) (
    ztp 1 (Q 1 u)) (
    br (x3 = 0) (
      ztp 1 (Q 1 u)) (
      pv_8_isFlat_23 R9 Q x1 x4 0 u))
theorem cj_v_8_isFlat_9b {Q1 Q2 Q3 : Int → iST → Prop} {R91 R92 R93 : Int → Int → Int → iST → Prop} {x1 : Int} {x3 : Int} {x4 : Int} {u : iST} (hR9 : ∀ r0 r1 r2 r3, R91 r0 r1 r2 r3 → R92 r0 r1 r2 r3 → R93 r0 r1 r2 r3) (hQ : ∀ r0 r1, Q1 r0 r1 → Q2 r0 r1 → Q3 r0 r1) : v_8_isFlat_9b R91 Q1 x1 x3 x4 u → pv_8_isFlat_9b R92 Q2 x1 x3 x4 u → v_8_isFlat_9b R93 Q3 x1 x3 x4 u := (br_cj (zt_cj (hQ _ _)) (br_cj (zt_cj (hQ _ _)) (cj_v_8_isFlat_23 hR9 hQ)))
theorem mn_v_8_isFlat_9b {Q1 Q2 : Int → iST → Prop} {R91 R92 : Int → Int → Int → iST → Prop} {x1 : Int} {x3 : Int} {x4 : Int} {u : iST} (hR9 : ∀ r0 r1 r2 r3, R91 r0 r1 r2 r3 → R92 r0 r1 r2 r3) (hQ : ∀ r0 r1, Q1 r0 r1 → Q2 r0 r1) : pv_8_isFlat_9b R91 Q1 x1 x3 x4 u → pv_8_isFlat_9b R92 Q2 x1 x3 x4 u := (br_mn (zt_mn (hQ _ _)) (br_mn (zt_mn (hQ _ _)) (mn_v_8_isFlat_23 hR9 hQ)))
theorem wp_v_8_isFlat_9b {Q1 Q2 : Int → iST → Prop} {R91 R92 : Int → Int → Int → iST → Prop} {x1 : Int} {x3 : Int} {x4 : Int} {u : iST} (hR9 : ∀ r0 r1 r2 r3, R91 r0 r1 r2 r3 → R92 r0 r1 r2 r3) (hQ : ∀ r0 r1, Q1 r0 r1 → Q2 r0 r1) : v_8_isFlat_9b R91 Q1 x1 x3 x4 u → pv_8_isFlat_9b R92 Q2 x1 x3 x4 u := (br_wp (zt_wp (hQ _ _)) (br_wp (zt_wp (hQ _ _)) (wp_v_8_isFlat_23 hR9 hQ)))
def pv_8_isFlat_9 (Q : Int → iST → Prop) (x1 : Int) (x3 : Int) (x4 : Int) (u : iST) : Prop := ∃ R9 : Int → Int → Int → iST → Prop, (∀ (x1 : Int) (x3 : Int) (x4 : Int) (u : iST), R9 x1 x3 x4 u → pv_8_isFlat_9b R9 Q x1 x3 x4 u) ∧ R9 x1 x3 x4 u
theorem cj_v_8_isFlat_9 {Q1 Q2 Q3 : Int → iST → Prop}  {x1 : Int} {x3 : Int} {x4 : Int} {u : iST} (hQ : ∀ r0 r1, Q1 r0 r1 → Q2 r0 r1 → Q3 r0 r1) : v_8_isFlat_9 Q1 x1 x3 x4 u → pv_8_isFlat_9 Q2 x1 x3 x4 u → v_8_isFlat_9 Q3 x1 x3 x4 u := by
  intro a b R3 c3
  obtain ⟨R2, c2, b2⟩ := b
  exact a (fun r0 r1 r2 r3 => R2 r0 r1 r2 r3 → R3 r0 r1 r2 r3) (fun r0 r1 r2 r3 a b => c3 r0 r1 r2 r3 (cj_v_8_isFlat_9b (fun r0 r1 r2 r3 a b => a b) hQ a (c2 r0 r1 r2 r3 b))) b2
theorem pv_8_isFlat_9_i  {Q : Int → iST → Prop} {x1 : Int} {x3 : Int} {x4 : Int} {u : iST} (I : Int → Int → Int → iST → Prop) (s : ∀ (x1 : Int) (x3 : Int) (x4 : Int) (u : iST), I x1 x3 x4 u → pv_8_isFlat_9b I Q x1 x3 x4 u) (h : I x1 x3 x4 u) : pv_8_isFlat_9 Q x1 x3 x4 u := ⟨I, s, h⟩
theorem mn_v_8_isFlat_9 {Q1 Q2 : Int → iST → Prop}  {x1 : Int} {x3 : Int} {x4 : Int} {u : iST} (hQ : ∀ r0 r1, Q1 r0 r1 → Q2 r0 r1) : pv_8_isFlat_9 Q1 x1 x3 x4 u → pv_8_isFlat_9 Q2 x1 x3 x4 u := fun ⟨R, s, h⟩ => ⟨R, fun r0 r1 r2 r3 a => mn_v_8_isFlat_9b (fun r0 r1 r2 r3 a => a) hQ (s r0 r1 r2 r3 a), h⟩
theorem un_v_8_isFlat_9  {Q : Int → iST → Prop} {x1 : Int} {x3 : Int} {x4 : Int} {u : iST} : pv_8_isFlat_9 Q x1 x3 x4 u → pv_8_isFlat_9b (fun x1 x3 x4 u => pv_8_isFlat_9 Q x1 x3 x4 u) Q x1 x3 x4 u := fun ⟨R, s, h⟩ => mn_v_8_isFlat_9b (fun r0 r1 r2 r3 a => ⟨R, s, a⟩) (fun _ _ h => h) (s _ _ _ _ h)
theorem fo_v_8_isFlat_9  {Q : Int → iST → Prop} {x1 : Int} {x3 : Int} {x4 : Int} {u : iST} : pv_8_isFlat_9b (fun x1 x3 x4 u => pv_8_isFlat_9 Q x1 x3 x4 u) Q x1 x3 x4 u → pv_8_isFlat_9 Q x1 x3 x4 u := fun h => ⟨fun x1 x3 x4 u => pv_8_isFlat_9b (fun x1 x3 x4 u => pv_8_isFlat_9 Q x1 x3 x4 u) Q x1 x3 x4 u, fun r0 r1 r2 r3 a => mn_v_8_isFlat_9b (fun r0 r1 r2 r3 a => un_v_8_isFlat_9 a) (fun _ _ h => h) a, h⟩
theorem wp_v_8_isFlat_9 {Q1 Q2 : Int → iST → Prop}  {x1 : Int} {x3 : Int} {x4 : Int} {u : iST} (hQ : ∀ r0 r1, Q1 r0 r1 → Q2 r0 r1) : v_8_isFlat_9 Q1 x1 x3 x4 u → pv_8_isFlat_9 Q2 x1 x3 x4 u := fun a => a (fun x1 x3 x4 u => pv_8_isFlat_9 Q2 x1 x3 x4 u) (fun x1 x3 x4 u b => fo_v_8_isFlat_9 (wp_v_8_isFlat_9b (fun r0 r1 r2 r3 a => a) hQ b))
def pv_8_isFlat (a0 : Int) (a1 : Int) (Q : Int → iST → Prop) (u : iST) : Prop :=
  pv_8_goToPath a1 (fun v1 u => 
  pv_8_isFlat_9 Q a0 v1 0 u) u
theorem cj_v_8_isFlat {Q1 Q2 Q3 : Int → iST → Prop}  {a0 : Int} {a1 : Int} {u : iST} (hQ : ∀ r0 r1, Q1 r0 r1 → Q2 r0 r1 → Q3 r0 r1) : v_8_isFlat a0 a1 Q1 u → pv_8_isFlat a0 a1 Q2 u → v_8_isFlat a0 a1 Q3 u := (cj_v_8_goToPath (fun _ _ => (cj_v_8_isFlat_9  hQ)))
theorem mn_v_8_isFlat {Q1 Q2 : Int → iST → Prop}  {a0 : Int} {a1 : Int} {u : iST} (hQ : ∀ r0 r1, Q1 r0 r1 → Q2 r0 r1) : pv_8_isFlat a0 a1 Q1 u → pv_8_isFlat a0 a1 Q2 u := (mn_v_8_goToPath (fun _ _ => (mn_v_8_isFlat_9  hQ)))
theorem wp_v_8_isFlat {Q1 Q2 : Int → iST → Prop}  {a0 : Int} {a1 : Int} {u : iST} (hQ : ∀ r0 r1, Q1 r0 r1 → Q2 r0 r1) : v_8_isFlat a0 a1 Q1 u → pv_8_isFlat a0 a1 Q2 u := (wp_v_8_goToPath (fun _ _ => (wp_v_8_isFlat_9  hQ)))
def pv_8_addMeasureClauses_133 (R11 : Int → Int → Int → Int → Int → iST → Prop) (Q : iST → Prop) (x2 : Int) (x3 : Int) (x5 : Int) (x7 : Int) (u : iST) : Prop :=
  pv_8_goToPath (-1) (fun v5 u => 
  ovp (x7 + 1) (
  R11 x2 x3 x5 v5 (x7 + 1) u)) u
theorem cj_v_8_addMeasureClauses_133 {Q1 Q2 Q3 : iST → Prop} {R111 R112 R113 : Int → Int → Int → Int → Int → iST → Prop} {x2 : Int} {x3 : Int} {x5 : Int} {x7 : Int} {u : iST} (hR11 : ∀ r0 r1 r2 r3 r4 r5, R111 r0 r1 r2 r3 r4 r5 → R112 r0 r1 r2 r3 r4 r5 → R113 r0 r1 r2 r3 r4 r5) (hQ : ∀ r0, Q1 r0 → Q2 r0 → Q3 r0) : v_8_addMeasureClauses_133 R111 Q1 x2 x3 x5 x7 u → pv_8_addMeasureClauses_133 R112 Q2 x2 x3 x5 x7 u → v_8_addMeasureClauses_133 R113 Q3 x2 x3 x5 x7 u := (cj_v_8_goToPath (fun _ _ => (ov_cj (hR11 _ _ _ _ _ _))))
theorem mn_v_8_addMeasureClauses_133 {Q1 Q2 : iST → Prop} {R111 R112 : Int → Int → Int → Int → Int → iST → Prop} {x2 : Int} {x3 : Int} {x5 : Int} {x7 : Int} {u : iST} (hR11 : ∀ r0 r1 r2 r3 r4 r5, R111 r0 r1 r2 r3 r4 r5 → R112 r0 r1 r2 r3 r4 r5) (hQ : ∀ r0, Q1 r0 → Q2 r0) : pv_8_addMeasureClauses_133 R111 Q1 x2 x3 x5 x7 u → pv_8_addMeasureClauses_133 R112 Q2 x2 x3 x5 x7 u := (mn_v_8_goToPath (fun _ _ => (ov_mn (hR11 _ _ _ _ _ _))))
theorem wp_v_8_addMeasureClauses_133 {Q1 Q2 : iST → Prop} {R111 R112 : Int → Int → Int → Int → Int → iST → Prop} {x2 : Int} {x3 : Int} {x5 : Int} {x7 : Int} {u : iST} (hR11 : ∀ r0 r1 r2 r3 r4 r5, R111 r0 r1 r2 r3 r4 r5 → R112 r0 r1 r2 r3 r4 r5) (hQ : ∀ r0, Q1 r0 → Q2 r0) : v_8_addMeasureClauses_133 R111 Q1 x2 x3 x5 x7 u → pv_8_addMeasureClauses_133 R112 Q2 x2 x3 x5 x7 u := (wp_v_8_goToPath (fun _ _ => (ov_wp (hR11 _ _ _ _ _ _))))
def pv_8_addMeasureClauses_41b (R11 : Int → Int → Int → Int → Int → iST → Prop) (R41 : Int → Int → Int → Int → Int → iST → Prop) (Q : iST → Prop) (x2 : Int) (x3 : Int) (x5 : Int) (x7 : Int) (x8 : Int) (u : iST) : Prop :=
  rd (u.1 35) (fun v4 => 
  br (v4 ≤ x8) (
    pv_8_addMeasureClauses_133 R11 Q x2 x3 x5 x7 u) (
    rd (u.1 32) (fun v7 => 
    br (v7 ≠ 0) (
      pv_8_addMeasureClauses_133 R11 Q x2 x3 x5 x7 u) (
      pv_4_newClause (fun v8 u => 
      pv_8_addRulers v8 x3 x3 (fun u => 
      bdp x8 128 (rd (u.2.1 33 x8) (fun v10 => 
      pv_7_right v10 (fun v11 u => 
      pv_10_bindRow x3 v11 (fun u => 
      pv_10_rebuilt x5 1 (fun v13 u => 
      pv_10_call 9 v13 x5 (-1) (fun v14 u => 
      pv_10_join v8 v14 (fun u => 
      ovp (x8 + 1) (
      R41 x2 x3 x5 x7 (x8 + 1) u)) u) u) u) u) u))) u) u))))
theorem cj_v_8_addMeasureClauses_41b {Q1 Q2 Q3 : iST → Prop} {R111 R112 R113 : Int → Int → Int → Int → Int → iST → Prop} {R411 R412 R413 : Int → Int → Int → Int → Int → iST → Prop} {x2 : Int} {x3 : Int} {x5 : Int} {x7 : Int} {x8 : Int} {u : iST} (hR11 : ∀ r0 r1 r2 r3 r4 r5, R111 r0 r1 r2 r3 r4 r5 → R112 r0 r1 r2 r3 r4 r5 → R113 r0 r1 r2 r3 r4 r5) (hR41 : ∀ r0 r1 r2 r3 r4 r5, R411 r0 r1 r2 r3 r4 r5 → R412 r0 r1 r2 r3 r4 r5 → R413 r0 r1 r2 r3 r4 r5) (hQ : ∀ r0, Q1 r0 → Q2 r0 → Q3 r0) : v_8_addMeasureClauses_41b R111 R411 Q1 x2 x3 x5 x7 x8 u → pv_8_addMeasureClauses_41b R112 R412 Q2 x2 x3 x5 x7 x8 u → v_8_addMeasureClauses_41b R113 R413 Q3 x2 x3 x5 x7 x8 u := (rd_cj fun _ => (br_cj (cj_v_8_addMeasureClauses_133 hR11 hQ) (rd_cj fun _ => (br_cj (cj_v_8_addMeasureClauses_133 hR11 hQ) (cj_v_4_newClause (fun _ _ => (cj_v_8_addRulers (fun _ => (bd_cj (rd_cj fun _ => (cj_v_7_right (fun _ _ => (cj_v_10_bindRow (fun _ => (cj_v_10_rebuilt (fun _ _ => (cj_v_10_call (fun _ _ => (cj_v_10_join (fun _ => (ov_cj (hR41 _ _ _ _ _ _))))))))))))))))))))))
theorem mn_v_8_addMeasureClauses_41b {Q1 Q2 : iST → Prop} {R111 R112 : Int → Int → Int → Int → Int → iST → Prop} {R411 R412 : Int → Int → Int → Int → Int → iST → Prop} {x2 : Int} {x3 : Int} {x5 : Int} {x7 : Int} {x8 : Int} {u : iST} (hR11 : ∀ r0 r1 r2 r3 r4 r5, R111 r0 r1 r2 r3 r4 r5 → R112 r0 r1 r2 r3 r4 r5) (hR41 : ∀ r0 r1 r2 r3 r4 r5, R411 r0 r1 r2 r3 r4 r5 → R412 r0 r1 r2 r3 r4 r5) (hQ : ∀ r0, Q1 r0 → Q2 r0) : pv_8_addMeasureClauses_41b R111 R411 Q1 x2 x3 x5 x7 x8 u → pv_8_addMeasureClauses_41b R112 R412 Q2 x2 x3 x5 x7 x8 u := (rd_mn fun _ => (br_mn (mn_v_8_addMeasureClauses_133 hR11 hQ) (rd_mn fun _ => (br_mn (mn_v_8_addMeasureClauses_133 hR11 hQ) (mn_v_4_newClause (fun _ _ => (mn_v_8_addRulers (fun _ => (bd_mn (rd_mn fun _ => (mn_v_7_right (fun _ _ => (mn_v_10_bindRow (fun _ => (mn_v_10_rebuilt (fun _ _ => (mn_v_10_call (fun _ _ => (mn_v_10_join (fun _ => (ov_mn (hR41 _ _ _ _ _ _))))))))))))))))))))))
theorem wp_v_8_addMeasureClauses_41b {Q1 Q2 : iST → Prop} {R111 R112 : Int → Int → Int → Int → Int → iST → Prop} {R411 R412 : Int → Int → Int → Int → Int → iST → Prop} {x2 : Int} {x3 : Int} {x5 : Int} {x7 : Int} {x8 : Int} {u : iST} (hR11 : ∀ r0 r1 r2 r3 r4 r5, R111 r0 r1 r2 r3 r4 r5 → R112 r0 r1 r2 r3 r4 r5) (hR41 : ∀ r0 r1 r2 r3 r4 r5, R411 r0 r1 r2 r3 r4 r5 → R412 r0 r1 r2 r3 r4 r5) (hQ : ∀ r0, Q1 r0 → Q2 r0) : v_8_addMeasureClauses_41b R111 R411 Q1 x2 x3 x5 x7 x8 u → pv_8_addMeasureClauses_41b R112 R412 Q2 x2 x3 x5 x7 x8 u := (rd_wp fun _ => (br_wp (wp_v_8_addMeasureClauses_133 hR11 hQ) (rd_wp fun _ => (br_wp (wp_v_8_addMeasureClauses_133 hR11 hQ) (wp_v_4_newClause (fun _ _ => (wp_v_8_addRulers (fun _ => (bd_wp (rd_wp fun _ => (wp_v_7_right (fun _ _ => (wp_v_10_bindRow (fun _ => (wp_v_10_rebuilt (fun _ _ => (wp_v_10_call (fun _ _ => (wp_v_10_join (fun _ => (ov_wp (hR41 _ _ _ _ _ _))))))))))))))))))))))
def pv_8_addMeasureClauses_41 (R11 : Int → Int → Int → Int → Int → iST → Prop) (Q : iST → Prop) (x2 : Int) (x3 : Int) (x5 : Int) (x7 : Int) (x8 : Int) (u : iST) : Prop := ∃ R41 : Int → Int → Int → Int → Int → iST → Prop, (∀ (x2 : Int) (x3 : Int) (x5 : Int) (x7 : Int) (x8 : Int) (u : iST), R41 x2 x3 x5 x7 x8 u → pv_8_addMeasureClauses_41b R11 R41 Q x2 x3 x5 x7 x8 u) ∧ R41 x2 x3 x5 x7 x8 u
theorem cj_v_8_addMeasureClauses_41 {Q1 Q2 Q3 : iST → Prop} {R111 R112 R113 : Int → Int → Int → Int → Int → iST → Prop} {x2 : Int} {x3 : Int} {x5 : Int} {x7 : Int} {x8 : Int} {u : iST} (hR11 : ∀ r0 r1 r2 r3 r4 r5, R111 r0 r1 r2 r3 r4 r5 → R112 r0 r1 r2 r3 r4 r5 → R113 r0 r1 r2 r3 r4 r5) (hQ : ∀ r0, Q1 r0 → Q2 r0 → Q3 r0) : v_8_addMeasureClauses_41 R111 Q1 x2 x3 x5 x7 x8 u → pv_8_addMeasureClauses_41 R112 Q2 x2 x3 x5 x7 x8 u → v_8_addMeasureClauses_41 R113 Q3 x2 x3 x5 x7 x8 u := by
  intro a b R3 c3
  obtain ⟨R2, c2, b2⟩ := b
  exact a (fun r0 r1 r2 r3 r4 r5 => R2 r0 r1 r2 r3 r4 r5 → R3 r0 r1 r2 r3 r4 r5) (fun r0 r1 r2 r3 r4 r5 a b => c3 r0 r1 r2 r3 r4 r5 (cj_v_8_addMeasureClauses_41b hR11 (fun r0 r1 r2 r3 r4 r5 a b => a b) hQ a (c2 r0 r1 r2 r3 r4 r5 b))) b2
theorem pv_8_addMeasureClauses_41_i {R11 : Int → Int → Int → Int → Int → iST → Prop} {Q : iST → Prop} {x2 : Int} {x3 : Int} {x5 : Int} {x7 : Int} {x8 : Int} {u : iST} (I : Int → Int → Int → Int → Int → iST → Prop) (s : ∀ (x2 : Int) (x3 : Int) (x5 : Int) (x7 : Int) (x8 : Int) (u : iST), I x2 x3 x5 x7 x8 u → pv_8_addMeasureClauses_41b R11 I Q x2 x3 x5 x7 x8 u) (h : I x2 x3 x5 x7 x8 u) : pv_8_addMeasureClauses_41 R11 Q x2 x3 x5 x7 x8 u := ⟨I, s, h⟩
theorem mn_v_8_addMeasureClauses_41 {Q1 Q2 : iST → Prop} {R111 R112 : Int → Int → Int → Int → Int → iST → Prop} {x2 : Int} {x3 : Int} {x5 : Int} {x7 : Int} {x8 : Int} {u : iST} (hR11 : ∀ r0 r1 r2 r3 r4 r5, R111 r0 r1 r2 r3 r4 r5 → R112 r0 r1 r2 r3 r4 r5) (hQ : ∀ r0, Q1 r0 → Q2 r0) : pv_8_addMeasureClauses_41 R111 Q1 x2 x3 x5 x7 x8 u → pv_8_addMeasureClauses_41 R112 Q2 x2 x3 x5 x7 x8 u := fun ⟨R, s, h⟩ => ⟨R, fun r0 r1 r2 r3 r4 r5 a => mn_v_8_addMeasureClauses_41b hR11 (fun r0 r1 r2 r3 r4 r5 a => a) hQ (s r0 r1 r2 r3 r4 r5 a), h⟩
theorem un_v_8_addMeasureClauses_41 {R11 : Int → Int → Int → Int → Int → iST → Prop} {Q : iST → Prop} {x2 : Int} {x3 : Int} {x5 : Int} {x7 : Int} {x8 : Int} {u : iST} : pv_8_addMeasureClauses_41 R11 Q x2 x3 x5 x7 x8 u → pv_8_addMeasureClauses_41b R11 (fun x2 x3 x5 x7 x8 u => pv_8_addMeasureClauses_41 R11 Q x2 x3 x5 x7 x8 u) Q x2 x3 x5 x7 x8 u := fun ⟨R, s, h⟩ => mn_v_8_addMeasureClauses_41b (fun _ _ _ _ _ _ h => h) (fun r0 r1 r2 r3 r4 r5 a => ⟨R, s, a⟩) (fun _ h => h) (s _ _ _ _ _ _ h)
theorem fo_v_8_addMeasureClauses_41 {R11 : Int → Int → Int → Int → Int → iST → Prop} {Q : iST → Prop} {x2 : Int} {x3 : Int} {x5 : Int} {x7 : Int} {x8 : Int} {u : iST} : pv_8_addMeasureClauses_41b R11 (fun x2 x3 x5 x7 x8 u => pv_8_addMeasureClauses_41 R11 Q x2 x3 x5 x7 x8 u) Q x2 x3 x5 x7 x8 u → pv_8_addMeasureClauses_41 R11 Q x2 x3 x5 x7 x8 u := fun h => ⟨fun x2 x3 x5 x7 x8 u => pv_8_addMeasureClauses_41b R11 (fun x2 x3 x5 x7 x8 u => pv_8_addMeasureClauses_41 R11 Q x2 x3 x5 x7 x8 u) Q x2 x3 x5 x7 x8 u, fun r0 r1 r2 r3 r4 r5 a => mn_v_8_addMeasureClauses_41b (fun _ _ _ _ _ _ h => h) (fun r0 r1 r2 r3 r4 r5 a => un_v_8_addMeasureClauses_41 a) (fun _ h => h) a, h⟩
theorem wp_v_8_addMeasureClauses_41 {Q1 Q2 : iST → Prop} {R111 R112 : Int → Int → Int → Int → Int → iST → Prop} {x2 : Int} {x3 : Int} {x5 : Int} {x7 : Int} {x8 : Int} {u : iST} (hR11 : ∀ r0 r1 r2 r3 r4 r5, R111 r0 r1 r2 r3 r4 r5 → R112 r0 r1 r2 r3 r4 r5) (hQ : ∀ r0, Q1 r0 → Q2 r0) : v_8_addMeasureClauses_41 R111 Q1 x2 x3 x5 x7 x8 u → pv_8_addMeasureClauses_41 R112 Q2 x2 x3 x5 x7 x8 u := fun a => a (fun x2 x3 x5 x7 x8 u => pv_8_addMeasureClauses_41 R112 Q2 x2 x3 x5 x7 x8 u) (fun x2 x3 x5 x7 x8 u b => fo_v_8_addMeasureClauses_41 (wp_v_8_addMeasureClauses_41b hR11 (fun r0 r1 r2 r3 r4 r5 a => a) hQ b))
def pv_8_addMeasureClauses_11b (R11 : Int → Int → Int → Int → Int → iST → Prop) (Q : iST → Prop) (x2 : Int) (x3 : Int) (x5 : Int) (x6 : Int) (x7 : Int) (u : iST) : Prop :=
  br (1000000 ≤ x7) (
    Q u) (
    br (x6 = 0) (
      Q u) (
      rd (u.1 32) (fun v2 => 
      br (v2 ≠ 0) (
        Q u) (
        pv_8_listCalls x2 (fun u => 
        pv_8_addMeasureClauses_41 R11 Q x2 x3 x5 x7 0 u) u))))
theorem cj_v_8_addMeasureClauses_11b {Q1 Q2 Q3 : iST → Prop} {R111 R112 R113 : Int → Int → Int → Int → Int → iST → Prop} {x2 : Int} {x3 : Int} {x5 : Int} {x6 : Int} {x7 : Int} {u : iST} (hR11 : ∀ r0 r1 r2 r3 r4 r5, R111 r0 r1 r2 r3 r4 r5 → R112 r0 r1 r2 r3 r4 r5 → R113 r0 r1 r2 r3 r4 r5) (hQ : ∀ r0, Q1 r0 → Q2 r0 → Q3 r0) : v_8_addMeasureClauses_11b R111 Q1 x2 x3 x5 x6 x7 u → pv_8_addMeasureClauses_11b R112 Q2 x2 x3 x5 x6 x7 u → v_8_addMeasureClauses_11b R113 Q3 x2 x3 x5 x6 x7 u := (br_cj (hQ _) (br_cj (hQ _) (rd_cj fun _ => (br_cj (hQ _) (cj_v_8_listCalls (fun _ => (cj_v_8_addMeasureClauses_41 hR11 hQ)))))))
theorem mn_v_8_addMeasureClauses_11b {Q1 Q2 : iST → Prop} {R111 R112 : Int → Int → Int → Int → Int → iST → Prop} {x2 : Int} {x3 : Int} {x5 : Int} {x6 : Int} {x7 : Int} {u : iST} (hR11 : ∀ r0 r1 r2 r3 r4 r5, R111 r0 r1 r2 r3 r4 r5 → R112 r0 r1 r2 r3 r4 r5) (hQ : ∀ r0, Q1 r0 → Q2 r0) : pv_8_addMeasureClauses_11b R111 Q1 x2 x3 x5 x6 x7 u → pv_8_addMeasureClauses_11b R112 Q2 x2 x3 x5 x6 x7 u := (br_mn (hQ _) (br_mn (hQ _) (rd_mn fun _ => (br_mn (hQ _) (mn_v_8_listCalls (fun _ => (mn_v_8_addMeasureClauses_41 hR11 hQ)))))))
theorem wp_v_8_addMeasureClauses_11b {Q1 Q2 : iST → Prop} {R111 R112 : Int → Int → Int → Int → Int → iST → Prop} {x2 : Int} {x3 : Int} {x5 : Int} {x6 : Int} {x7 : Int} {u : iST} (hR11 : ∀ r0 r1 r2 r3 r4 r5, R111 r0 r1 r2 r3 r4 r5 → R112 r0 r1 r2 r3 r4 r5) (hQ : ∀ r0, Q1 r0 → Q2 r0) : v_8_addMeasureClauses_11b R111 Q1 x2 x3 x5 x6 x7 u → pv_8_addMeasureClauses_11b R112 Q2 x2 x3 x5 x6 x7 u := (br_wp (hQ _) (br_wp (hQ _) (rd_wp fun _ => (br_wp (hQ _) (wp_v_8_listCalls (fun _ => (wp_v_8_addMeasureClauses_41 hR11 hQ)))))))
def pv_8_addMeasureClauses_11 (Q : iST → Prop) (x2 : Int) (x3 : Int) (x5 : Int) (x6 : Int) (x7 : Int) (u : iST) : Prop := ∃ R11 : Int → Int → Int → Int → Int → iST → Prop, (∀ (x2 : Int) (x3 : Int) (x5 : Int) (x6 : Int) (x7 : Int) (u : iST), R11 x2 x3 x5 x6 x7 u → pv_8_addMeasureClauses_11b R11 Q x2 x3 x5 x6 x7 u) ∧ R11 x2 x3 x5 x6 x7 u
theorem cj_v_8_addMeasureClauses_11 {Q1 Q2 Q3 : iST → Prop}  {x2 : Int} {x3 : Int} {x5 : Int} {x6 : Int} {x7 : Int} {u : iST} (hQ : ∀ r0, Q1 r0 → Q2 r0 → Q3 r0) : v_8_addMeasureClauses_11 Q1 x2 x3 x5 x6 x7 u → pv_8_addMeasureClauses_11 Q2 x2 x3 x5 x6 x7 u → v_8_addMeasureClauses_11 Q3 x2 x3 x5 x6 x7 u := by
  intro a b R3 c3
  obtain ⟨R2, c2, b2⟩ := b
  exact a (fun r0 r1 r2 r3 r4 r5 => R2 r0 r1 r2 r3 r4 r5 → R3 r0 r1 r2 r3 r4 r5) (fun r0 r1 r2 r3 r4 r5 a b => c3 r0 r1 r2 r3 r4 r5 (cj_v_8_addMeasureClauses_11b (fun r0 r1 r2 r3 r4 r5 a b => a b) hQ a (c2 r0 r1 r2 r3 r4 r5 b))) b2
theorem pv_8_addMeasureClauses_11_i  {Q : iST → Prop} {x2 : Int} {x3 : Int} {x5 : Int} {x6 : Int} {x7 : Int} {u : iST} (I : Int → Int → Int → Int → Int → iST → Prop) (s : ∀ (x2 : Int) (x3 : Int) (x5 : Int) (x6 : Int) (x7 : Int) (u : iST), I x2 x3 x5 x6 x7 u → pv_8_addMeasureClauses_11b I Q x2 x3 x5 x6 x7 u) (h : I x2 x3 x5 x6 x7 u) : pv_8_addMeasureClauses_11 Q x2 x3 x5 x6 x7 u := ⟨I, s, h⟩
theorem mn_v_8_addMeasureClauses_11 {Q1 Q2 : iST → Prop}  {x2 : Int} {x3 : Int} {x5 : Int} {x6 : Int} {x7 : Int} {u : iST} (hQ : ∀ r0, Q1 r0 → Q2 r0) : pv_8_addMeasureClauses_11 Q1 x2 x3 x5 x6 x7 u → pv_8_addMeasureClauses_11 Q2 x2 x3 x5 x6 x7 u := fun ⟨R, s, h⟩ => ⟨R, fun r0 r1 r2 r3 r4 r5 a => mn_v_8_addMeasureClauses_11b (fun r0 r1 r2 r3 r4 r5 a => a) hQ (s r0 r1 r2 r3 r4 r5 a), h⟩
theorem un_v_8_addMeasureClauses_11  {Q : iST → Prop} {x2 : Int} {x3 : Int} {x5 : Int} {x6 : Int} {x7 : Int} {u : iST} : pv_8_addMeasureClauses_11 Q x2 x3 x5 x6 x7 u → pv_8_addMeasureClauses_11b (fun x2 x3 x5 x6 x7 u => pv_8_addMeasureClauses_11 Q x2 x3 x5 x6 x7 u) Q x2 x3 x5 x6 x7 u := fun ⟨R, s, h⟩ => mn_v_8_addMeasureClauses_11b (fun r0 r1 r2 r3 r4 r5 a => ⟨R, s, a⟩) (fun _ h => h) (s _ _ _ _ _ _ h)
theorem fo_v_8_addMeasureClauses_11  {Q : iST → Prop} {x2 : Int} {x3 : Int} {x5 : Int} {x6 : Int} {x7 : Int} {u : iST} : pv_8_addMeasureClauses_11b (fun x2 x3 x5 x6 x7 u => pv_8_addMeasureClauses_11 Q x2 x3 x5 x6 x7 u) Q x2 x3 x5 x6 x7 u → pv_8_addMeasureClauses_11 Q x2 x3 x5 x6 x7 u := fun h => ⟨fun x2 x3 x5 x6 x7 u => pv_8_addMeasureClauses_11b (fun x2 x3 x5 x6 x7 u => pv_8_addMeasureClauses_11 Q x2 x3 x5 x6 x7 u) Q x2 x3 x5 x6 x7 u, fun r0 r1 r2 r3 r4 r5 a => mn_v_8_addMeasureClauses_11b (fun r0 r1 r2 r3 r4 r5 a => un_v_8_addMeasureClauses_11 a) (fun _ h => h) a, h⟩
theorem wp_v_8_addMeasureClauses_11 {Q1 Q2 : iST → Prop}  {x2 : Int} {x3 : Int} {x5 : Int} {x6 : Int} {x7 : Int} {u : iST} (hQ : ∀ r0, Q1 r0 → Q2 r0) : v_8_addMeasureClauses_11 Q1 x2 x3 x5 x6 x7 u → pv_8_addMeasureClauses_11 Q2 x2 x3 x5 x6 x7 u := fun a => a (fun x2 x3 x5 x6 x7 u => pv_8_addMeasureClauses_11 Q2 x2 x3 x5 x6 x7 u) (fun x2 x3 x5 x6 x7 u b => fo_v_8_addMeasureClauses_11 (wp_v_8_addMeasureClauses_11b (fun r0 r1 r2 r3 r4 r5 a => a) hQ b))
def pv_8_addMeasureClauses (a1 : Int) (a2 : Int) (a3 : Int) (a4 : Int) (Q : iST → Prop) (u : iST) : Prop :=
  pv_8_goToPath a3 (fun v1 u => 
  pv_8_addMeasureClauses_11 Q a1 a2 a4 v1 0 u) u
theorem cj_v_8_addMeasureClauses {Q1 Q2 Q3 : iST → Prop}  {a1 : Int} {a2 : Int} {a3 : Int} {a4 : Int} {u : iST} (hQ : ∀ r0, Q1 r0 → Q2 r0 → Q3 r0) : v_8_addMeasureClauses a1 a2 a3 a4 Q1 u → pv_8_addMeasureClauses a1 a2 a3 a4 Q2 u → v_8_addMeasureClauses a1 a2 a3 a4 Q3 u := (cj_v_8_goToPath (fun _ _ => (cj_v_8_addMeasureClauses_11  hQ)))
theorem mn_v_8_addMeasureClauses {Q1 Q2 : iST → Prop}  {a1 : Int} {a2 : Int} {a3 : Int} {a4 : Int} {u : iST} (hQ : ∀ r0, Q1 r0 → Q2 r0) : pv_8_addMeasureClauses a1 a2 a3 a4 Q1 u → pv_8_addMeasureClauses a1 a2 a3 a4 Q2 u := (mn_v_8_goToPath (fun _ _ => (mn_v_8_addMeasureClauses_11  hQ)))
theorem wp_v_8_addMeasureClauses {Q1 Q2 : iST → Prop}  {a1 : Int} {a2 : Int} {a3 : Int} {a4 : Int} {u : iST} (hQ : ∀ r0, Q1 r0 → Q2 r0) : v_8_addMeasureClauses a1 a2 a3 a4 Q1 u → pv_8_addMeasureClauses a1 a2 a3 a4 Q2 u := (wp_v_8_goToPath (fun _ _ => (wp_v_8_addMeasureClauses_11  hQ)))
def pv_8_mute_100 (R2 : Int → iST → Prop) (R53 : Int → Int → iST → Prop) (Q : iST → Prop) (x2 : Int) (x5 : Int) (u : iST) : Prop :=
  pv_7_right x5 (fun v8 u => 
  R53 x2 v8 u) u
theorem cj_v_8_mute_100 {Q1 Q2 Q3 : iST → Prop} {R21 R22 R23 : Int → iST → Prop} {R531 R532 R533 : Int → Int → iST → Prop} {x2 : Int} {x5 : Int} {u : iST} (hR2 : ∀ r0 r1, R21 r0 r1 → R22 r0 r1 → R23 r0 r1) (hR53 : ∀ r0 r1 r2, R531 r0 r1 r2 → R532 r0 r1 r2 → R533 r0 r1 r2) (hQ : ∀ r0, Q1 r0 → Q2 r0 → Q3 r0) : v_8_mute_100 R21 R531 Q1 x2 x5 u → pv_8_mute_100 R22 R532 Q2 x2 x5 u → v_8_mute_100 R23 R533 Q3 x2 x5 u := (cj_v_7_right (fun _ _ => (hR53 _ _ _)))
theorem mn_v_8_mute_100 {Q1 Q2 : iST → Prop} {R21 R22 : Int → iST → Prop} {R531 R532 : Int → Int → iST → Prop} {x2 : Int} {x5 : Int} {u : iST} (hR2 : ∀ r0 r1, R21 r0 r1 → R22 r0 r1) (hR53 : ∀ r0 r1 r2, R531 r0 r1 r2 → R532 r0 r1 r2) (hQ : ∀ r0, Q1 r0 → Q2 r0) : pv_8_mute_100 R21 R531 Q1 x2 x5 u → pv_8_mute_100 R22 R532 Q2 x2 x5 u := (mn_v_7_right (fun _ _ => (hR53 _ _ _)))
theorem wp_v_8_mute_100 {Q1 Q2 : iST → Prop} {R21 R22 : Int → iST → Prop} {R531 R532 : Int → Int → iST → Prop} {x2 : Int} {x5 : Int} {u : iST} (hR2 : ∀ r0 r1, R21 r0 r1 → R22 r0 r1) (hR53 : ∀ r0 r1 r2, R531 r0 r1 r2 → R532 r0 r1 r2) (hQ : ∀ r0, Q1 r0 → Q2 r0) : v_8_mute_100 R21 R531 Q1 x2 x5 u → pv_8_mute_100 R22 R532 Q2 x2 x5 u := (wp_v_7_right (fun _ _ => (hR53 _ _ _)))
def pv_8_mute_53b (R2 : Int → iST → Prop) (R53 : Int → Int → iST → Prop) (Q : iST → Prop) (x2 : Int) (x5 : Int) (u : iST) : Prop :=
  pv_7_isPair x5 (fun v4 u => 
  br (v4 = 0) (
    pv_7_right x2 (fun v5 u => 
    R2 v5 u) u) (
    pv_7_left x5 (fun v6 u => 
    pv_0_theoremOf v6 (fun v7 u => 
    br (v7 = (-1)) (
      pv_8_mute_100 R2 R53 Q x2 x5 u) (
      ztp 1 (bdp v7 60 (sw (iA u 13 v7 1) (fun u => 
      pv_8_mute_100 R2 R53 Q x2 x5 u))))) u) u)) u
theorem cj_v_8_mute_53b {Q1 Q2 Q3 : iST → Prop} {R21 R22 R23 : Int → iST → Prop} {R531 R532 R533 : Int → Int → iST → Prop} {x2 : Int} {x5 : Int} {u : iST} (hR2 : ∀ r0 r1, R21 r0 r1 → R22 r0 r1 → R23 r0 r1) (hR53 : ∀ r0 r1 r2, R531 r0 r1 r2 → R532 r0 r1 r2 → R533 r0 r1 r2) (hQ : ∀ r0, Q1 r0 → Q2 r0 → Q3 r0) : v_8_mute_53b R21 R531 Q1 x2 x5 u → pv_8_mute_53b R22 R532 Q2 x2 x5 u → v_8_mute_53b R23 R533 Q3 x2 x5 u := (cj_v_7_isPair (fun _ _ => (br_cj (cj_v_7_right (fun _ _ => (hR2 _ _))) (cj_v_7_left (fun _ _ => (cj_v_0_theoremOf (fun _ _ => (br_cj (cj_v_8_mute_100 hR2 hR53 hQ) (zt_cj (bd_cj (sw_cj fun _ => (cj_v_8_mute_100 hR2 hR53 hQ))))))))))))
theorem mn_v_8_mute_53b {Q1 Q2 : iST → Prop} {R21 R22 : Int → iST → Prop} {R531 R532 : Int → Int → iST → Prop} {x2 : Int} {x5 : Int} {u : iST} (hR2 : ∀ r0 r1, R21 r0 r1 → R22 r0 r1) (hR53 : ∀ r0 r1 r2, R531 r0 r1 r2 → R532 r0 r1 r2) (hQ : ∀ r0, Q1 r0 → Q2 r0) : pv_8_mute_53b R21 R531 Q1 x2 x5 u → pv_8_mute_53b R22 R532 Q2 x2 x5 u := (mn_v_7_isPair (fun _ _ => (br_mn (mn_v_7_right (fun _ _ => (hR2 _ _))) (mn_v_7_left (fun _ _ => (mn_v_0_theoremOf (fun _ _ => (br_mn (mn_v_8_mute_100 hR2 hR53 hQ) (zt_mn (bd_mn (sw_mn fun _ => (mn_v_8_mute_100 hR2 hR53 hQ))))))))))))
theorem wp_v_8_mute_53b {Q1 Q2 : iST → Prop} {R21 R22 : Int → iST → Prop} {R531 R532 : Int → Int → iST → Prop} {x2 : Int} {x5 : Int} {u : iST} (hR2 : ∀ r0 r1, R21 r0 r1 → R22 r0 r1) (hR53 : ∀ r0 r1 r2, R531 r0 r1 r2 → R532 r0 r1 r2) (hQ : ∀ r0, Q1 r0 → Q2 r0) : v_8_mute_53b R21 R531 Q1 x2 x5 u → pv_8_mute_53b R22 R532 Q2 x2 x5 u := (wp_v_7_isPair (fun _ _ => (br_wp (wp_v_7_right (fun _ _ => (hR2 _ _))) (wp_v_7_left (fun _ _ => (wp_v_0_theoremOf (fun _ _ => (br_wp (wp_v_8_mute_100 hR2 hR53 hQ) (zt_wp (bd_wp (sw_wp fun _ => (wp_v_8_mute_100 hR2 hR53 hQ))))))))))))
def pv_8_mute_53 (R2 : Int → iST → Prop) (Q : iST → Prop) (x2 : Int) (x5 : Int) (u : iST) : Prop := ∃ R53 : Int → Int → iST → Prop, (∀ (x2 : Int) (x5 : Int) (u : iST), R53 x2 x5 u → pv_8_mute_53b R2 R53 Q x2 x5 u) ∧ R53 x2 x5 u
theorem cj_v_8_mute_53 {Q1 Q2 Q3 : iST → Prop} {R21 R22 R23 : Int → iST → Prop} {x2 : Int} {x5 : Int} {u : iST} (hR2 : ∀ r0 r1, R21 r0 r1 → R22 r0 r1 → R23 r0 r1) (hQ : ∀ r0, Q1 r0 → Q2 r0 → Q3 r0) : v_8_mute_53 R21 Q1 x2 x5 u → pv_8_mute_53 R22 Q2 x2 x5 u → v_8_mute_53 R23 Q3 x2 x5 u := by
  intro a b R3 c3
  obtain ⟨R2, c2, b2⟩ := b
  exact a (fun r0 r1 r2 => R2 r0 r1 r2 → R3 r0 r1 r2) (fun r0 r1 r2 a b => c3 r0 r1 r2 (cj_v_8_mute_53b hR2 (fun r0 r1 r2 a b => a b) hQ a (c2 r0 r1 r2 b))) b2
theorem pv_8_mute_53_i {R2 : Int → iST → Prop} {Q : iST → Prop} {x2 : Int} {x5 : Int} {u : iST} (I : Int → Int → iST → Prop) (s : ∀ (x2 : Int) (x5 : Int) (u : iST), I x2 x5 u → pv_8_mute_53b R2 I Q x2 x5 u) (h : I x2 x5 u) : pv_8_mute_53 R2 Q x2 x5 u := ⟨I, s, h⟩
theorem mn_v_8_mute_53 {Q1 Q2 : iST → Prop} {R21 R22 : Int → iST → Prop} {x2 : Int} {x5 : Int} {u : iST} (hR2 : ∀ r0 r1, R21 r0 r1 → R22 r0 r1) (hQ : ∀ r0, Q1 r0 → Q2 r0) : pv_8_mute_53 R21 Q1 x2 x5 u → pv_8_mute_53 R22 Q2 x2 x5 u := fun ⟨R, s, h⟩ => ⟨R, fun r0 r1 r2 a => mn_v_8_mute_53b hR2 (fun r0 r1 r2 a => a) hQ (s r0 r1 r2 a), h⟩
theorem un_v_8_mute_53 {R2 : Int → iST → Prop} {Q : iST → Prop} {x2 : Int} {x5 : Int} {u : iST} : pv_8_mute_53 R2 Q x2 x5 u → pv_8_mute_53b R2 (fun x2 x5 u => pv_8_mute_53 R2 Q x2 x5 u) Q x2 x5 u := fun ⟨R, s, h⟩ => mn_v_8_mute_53b (fun _ _ h => h) (fun r0 r1 r2 a => ⟨R, s, a⟩) (fun _ h => h) (s _ _ _ h)
theorem fo_v_8_mute_53 {R2 : Int → iST → Prop} {Q : iST → Prop} {x2 : Int} {x5 : Int} {u : iST} : pv_8_mute_53b R2 (fun x2 x5 u => pv_8_mute_53 R2 Q x2 x5 u) Q x2 x5 u → pv_8_mute_53 R2 Q x2 x5 u := fun h => ⟨fun x2 x5 u => pv_8_mute_53b R2 (fun x2 x5 u => pv_8_mute_53 R2 Q x2 x5 u) Q x2 x5 u, fun r0 r1 r2 a => mn_v_8_mute_53b (fun _ _ h => h) (fun r0 r1 r2 a => un_v_8_mute_53 a) (fun _ h => h) a, h⟩
theorem wp_v_8_mute_53 {Q1 Q2 : iST → Prop} {R21 R22 : Int → iST → Prop} {x2 : Int} {x5 : Int} {u : iST} (hR2 : ∀ r0 r1, R21 r0 r1 → R22 r0 r1) (hQ : ∀ r0, Q1 r0 → Q2 r0) : v_8_mute_53 R21 Q1 x2 x5 u → pv_8_mute_53 R22 Q2 x2 x5 u := fun a => a (fun x2 x5 u => pv_8_mute_53 R22 Q2 x2 x5 u) (fun x2 x5 u b => fo_v_8_mute_53 (wp_v_8_mute_53b hR2 (fun r0 r1 r2 a => a) hQ b))
def pv_8_mute_47 (R2 : Int → iST → Prop) (Q : iST → Prop) (x2 : Int) (y0 : Int) (u : iST) : Prop :=
  pv_8_mute_53 R2 Q x2 y0 u
theorem cj_v_8_mute_47 {Q1 Q2 Q3 : iST → Prop} {R21 R22 R23 : Int → iST → Prop} {x2 : Int} {y0 : Int} {u : iST} (hR2 : ∀ r0 r1, R21 r0 r1 → R22 r0 r1 → R23 r0 r1) (hQ : ∀ r0, Q1 r0 → Q2 r0 → Q3 r0) : v_8_mute_47 R21 Q1 x2 y0 u → pv_8_mute_47 R22 Q2 x2 y0 u → v_8_mute_47 R23 Q3 x2 y0 u := (cj_v_8_mute_53 hR2 hQ)
theorem mn_v_8_mute_47 {Q1 Q2 : iST → Prop} {R21 R22 : Int → iST → Prop} {x2 : Int} {y0 : Int} {u : iST} (hR2 : ∀ r0 r1, R21 r0 r1 → R22 r0 r1) (hQ : ∀ r0, Q1 r0 → Q2 r0) : pv_8_mute_47 R21 Q1 x2 y0 u → pv_8_mute_47 R22 Q2 x2 y0 u := (mn_v_8_mute_53 hR2 hQ)
theorem wp_v_8_mute_47 {Q1 Q2 : iST → Prop} {R21 R22 : Int → iST → Prop} {x2 : Int} {y0 : Int} {u : iST} (hR2 : ∀ r0 r1, R21 r0 r1 → R22 r0 r1) (hQ : ∀ r0, Q1 r0 → Q2 r0) : v_8_mute_47 R21 Q1 x2 y0 u → pv_8_mute_47 R22 Q2 x2 y0 u := (wp_v_8_mute_53 hR2 hQ)
def pv_8_mute_2b (R2 : Int → iST → Prop) (Q : iST → Prop) (x2 : Int) (u : iST) : Prop :=
  pv_7_isPair x2 (fun v1 u => 
  br (v1 = 0) (
    Q u) (
    pv_7_left x2 (fun v2 u => 
    pv_7_left v2 (fun v3 u => 
    br (v3 ≠ 24) (
      pv_8_mute_47 R2 Q x2 0 u) (
      pv_7_right v2 (fun v9 u => 
      pv_8_mute_47 R2 Q x2 v9 u) u)) u) u)) u
theorem cj_v_8_mute_2b {Q1 Q2 Q3 : iST → Prop} {R21 R22 R23 : Int → iST → Prop} {x2 : Int} {u : iST} (hR2 : ∀ r0 r1, R21 r0 r1 → R22 r0 r1 → R23 r0 r1) (hQ : ∀ r0, Q1 r0 → Q2 r0 → Q3 r0) : v_8_mute_2b R21 Q1 x2 u → pv_8_mute_2b R22 Q2 x2 u → v_8_mute_2b R23 Q3 x2 u := (cj_v_7_isPair (fun _ _ => (br_cj (hQ _) (cj_v_7_left (fun _ _ => (cj_v_7_left (fun _ _ => (br_cj (cj_v_8_mute_47 hR2 hQ) (cj_v_7_right (fun _ _ => (cj_v_8_mute_47 hR2 hQ)))))))))))
theorem mn_v_8_mute_2b {Q1 Q2 : iST → Prop} {R21 R22 : Int → iST → Prop} {x2 : Int} {u : iST} (hR2 : ∀ r0 r1, R21 r0 r1 → R22 r0 r1) (hQ : ∀ r0, Q1 r0 → Q2 r0) : pv_8_mute_2b R21 Q1 x2 u → pv_8_mute_2b R22 Q2 x2 u := (mn_v_7_isPair (fun _ _ => (br_mn (hQ _) (mn_v_7_left (fun _ _ => (mn_v_7_left (fun _ _ => (br_mn (mn_v_8_mute_47 hR2 hQ) (mn_v_7_right (fun _ _ => (mn_v_8_mute_47 hR2 hQ)))))))))))
theorem wp_v_8_mute_2b {Q1 Q2 : iST → Prop} {R21 R22 : Int → iST → Prop} {x2 : Int} {u : iST} (hR2 : ∀ r0 r1, R21 r0 r1 → R22 r0 r1) (hQ : ∀ r0, Q1 r0 → Q2 r0) : v_8_mute_2b R21 Q1 x2 u → pv_8_mute_2b R22 Q2 x2 u := (wp_v_7_isPair (fun _ _ => (br_wp (hQ _) (wp_v_7_left (fun _ _ => (wp_v_7_left (fun _ _ => (br_wp (wp_v_8_mute_47 hR2 hQ) (wp_v_7_right (fun _ _ => (wp_v_8_mute_47 hR2 hQ)))))))))))
def pv_8_mute_2 (Q : iST → Prop) (x2 : Int) (u : iST) : Prop := ∃ R2 : Int → iST → Prop, (∀ (x2 : Int) (u : iST), R2 x2 u → pv_8_mute_2b R2 Q x2 u) ∧ R2 x2 u
theorem cj_v_8_mute_2 {Q1 Q2 Q3 : iST → Prop}  {x2 : Int} {u : iST} (hQ : ∀ r0, Q1 r0 → Q2 r0 → Q3 r0) : v_8_mute_2 Q1 x2 u → pv_8_mute_2 Q2 x2 u → v_8_mute_2 Q3 x2 u := by
  intro a b R3 c3
  obtain ⟨R2, c2, b2⟩ := b
  exact a (fun r0 r1 => R2 r0 r1 → R3 r0 r1) (fun r0 r1 a b => c3 r0 r1 (cj_v_8_mute_2b (fun r0 r1 a b => a b) hQ a (c2 r0 r1 b))) b2
theorem pv_8_mute_2_i  {Q : iST → Prop} {x2 : Int} {u : iST} (I : Int → iST → Prop) (s : ∀ (x2 : Int) (u : iST), I x2 u → pv_8_mute_2b I Q x2 u) (h : I x2 u) : pv_8_mute_2 Q x2 u := ⟨I, s, h⟩
theorem mn_v_8_mute_2 {Q1 Q2 : iST → Prop}  {x2 : Int} {u : iST} (hQ : ∀ r0, Q1 r0 → Q2 r0) : pv_8_mute_2 Q1 x2 u → pv_8_mute_2 Q2 x2 u := fun ⟨R, s, h⟩ => ⟨R, fun r0 r1 a => mn_v_8_mute_2b (fun r0 r1 a => a) hQ (s r0 r1 a), h⟩
theorem un_v_8_mute_2  {Q : iST → Prop} {x2 : Int} {u : iST} : pv_8_mute_2 Q x2 u → pv_8_mute_2b (fun x2 u => pv_8_mute_2 Q x2 u) Q x2 u := fun ⟨R, s, h⟩ => mn_v_8_mute_2b (fun r0 r1 a => ⟨R, s, a⟩) (fun _ h => h) (s _ _ h)
theorem fo_v_8_mute_2  {Q : iST → Prop} {x2 : Int} {u : iST} : pv_8_mute_2b (fun x2 u => pv_8_mute_2 Q x2 u) Q x2 u → pv_8_mute_2 Q x2 u := fun h => ⟨fun x2 u => pv_8_mute_2b (fun x2 u => pv_8_mute_2 Q x2 u) Q x2 u, fun r0 r1 a => mn_v_8_mute_2b (fun r0 r1 a => un_v_8_mute_2 a) (fun _ h => h) a, h⟩
theorem wp_v_8_mute_2 {Q1 Q2 : iST → Prop}  {x2 : Int} {u : iST} (hQ : ∀ r0, Q1 r0 → Q2 r0) : v_8_mute_2 Q1 x2 u → pv_8_mute_2 Q2 x2 u := fun a => a (fun x2 u => pv_8_mute_2 Q2 x2 u) (fun x2 u b => fo_v_8_mute_2 (wp_v_8_mute_2b (fun r0 r1 a => a) hQ b))
def pv_8_mute (a0 : Int) (Q : iST → Prop) (u : iST) : Prop :=
  pv_8_mute_2 Q a0 u
theorem cj_v_8_mute {Q1 Q2 Q3 : iST → Prop}  {a0 : Int} {u : iST} (hQ : ∀ r0, Q1 r0 → Q2 r0 → Q3 r0) : v_8_mute a0 Q1 u → pv_8_mute a0 Q2 u → v_8_mute a0 Q3 u := (cj_v_8_mute_2  hQ)
theorem mn_v_8_mute {Q1 Q2 : iST → Prop}  {a0 : Int} {u : iST} (hQ : ∀ r0, Q1 r0 → Q2 r0) : pv_8_mute a0 Q1 u → pv_8_mute a0 Q2 u := (mn_v_8_mute_2  hQ)
theorem wp_v_8_mute {Q1 Q2 : iST → Prop}  {a0 : Int} {u : iST} (hQ : ∀ r0, Q1 r0 → Q2 r0) : v_8_mute a0 Q1 u → pv_8_mute a0 Q2 u := (wp_v_8_mute_2  hQ)
def pv_8_addUses_129 (R2 : Int → Int → iST → Prop) (Q : iST → Prop) (x1 : Int) (x3 : Int) (u : iST) : Prop :=
  pv_7_right x3 (fun v7 u => 
  R2 x1 v7 u) u
theorem cj_v_8_addUses_129 {Q1 Q2 Q3 : iST → Prop} {R21 R22 R23 : Int → Int → iST → Prop} {x1 : Int} {x3 : Int} {u : iST} (hR2 : ∀ r0 r1 r2, R21 r0 r1 r2 → R22 r0 r1 r2 → R23 r0 r1 r2) (hQ : ∀ r0, Q1 r0 → Q2 r0 → Q3 r0) : v_8_addUses_129 R21 Q1 x1 x3 u → pv_8_addUses_129 R22 Q2 x1 x3 u → v_8_addUses_129 R23 Q3 x1 x3 u := (cj_v_7_right (fun _ _ => (hR2 _ _ _)))
theorem mn_v_8_addUses_129 {Q1 Q2 : iST → Prop} {R21 R22 : Int → Int → iST → Prop} {x1 : Int} {x3 : Int} {u : iST} (hR2 : ∀ r0 r1 r2, R21 r0 r1 r2 → R22 r0 r1 r2) (hQ : ∀ r0, Q1 r0 → Q2 r0) : pv_8_addUses_129 R21 Q1 x1 x3 u → pv_8_addUses_129 R22 Q2 x1 x3 u := (mn_v_7_right (fun _ _ => (hR2 _ _ _)))
theorem wp_v_8_addUses_129 {Q1 Q2 : iST → Prop} {R21 R22 : Int → Int → iST → Prop} {x1 : Int} {x3 : Int} {u : iST} (hR2 : ∀ r0 r1 r2, R21 r0 r1 r2 → R22 r0 r1 r2) (hQ : ∀ r0, Q1 r0 → Q2 r0) : v_8_addUses_129 R21 Q1 x1 x3 u → pv_8_addUses_129 R22 Q2 x1 x3 u := (wp_v_7_right (fun _ _ => (hR2 _ _ _)))
def pv_8_addUses_2b (R2 : Int → Int → iST → Prop) (Q : iST → Prop) (x1 : Int) (x3 : Int) (u : iST) : Prop :=
  pv_7_isPair x3 (fun v1 u => 
  br (v1 = 0) (
    Q u) (
    rd (u.1 32) (fun v2 => 
    br (v2 ≠ 0) (
      Q u) (
      pv_7_left x3 (fun v3 u => 
      pv_7_item v3 1 (fun v4 u => 
      pv_0_theoremOf v4 (fun v5 u => 
      pv_7_left v3 (fun v6 u => 
      br (v6 ≠ 26) (
        pv_8_addUses_129 R2 Q x1 x3 u) (
        br (v5 = (-1)) (
          pv_8_addUses_129 R2 Q x1 x3 u) (
          pv_7_right v3 (fun v8 u => 
          pv_7_right v8 (fun v9 u => 
          pv_10_bindPairs v9 (fun v10 u => 
          bdp v5 60 (rd (u.2.1 6 v5) (fun v11 => 
          pv_10_rebuilt v11 1 (fun v12 u => 
          pv_10_negated v12 (fun v13 u => 
          pv_10_join x1 v13 (fun u => 
          pv_8_addUses_129 R2 Q x1 x3 u) u) u) u))) u) u) u))) u) u) u) u)))) u
theorem cj_v_8_addUses_2b {Q1 Q2 Q3 : iST → Prop} {R21 R22 R23 : Int → Int → iST → Prop} {x1 : Int} {x3 : Int} {u : iST} (hR2 : ∀ r0 r1 r2, R21 r0 r1 r2 → R22 r0 r1 r2 → R23 r0 r1 r2) (hQ : ∀ r0, Q1 r0 → Q2 r0 → Q3 r0) : v_8_addUses_2b R21 Q1 x1 x3 u → pv_8_addUses_2b R22 Q2 x1 x3 u → v_8_addUses_2b R23 Q3 x1 x3 u := (cj_v_7_isPair (fun _ _ => (br_cj (hQ _) (rd_cj fun _ => (br_cj (hQ _) (cj_v_7_left (fun _ _ => (cj_v_7_item (fun _ _ => (cj_v_0_theoremOf (fun _ _ => (cj_v_7_left (fun _ _ => (br_cj (cj_v_8_addUses_129 hR2 hQ) (br_cj (cj_v_8_addUses_129 hR2 hQ) (cj_v_7_right (fun _ _ => (cj_v_7_right (fun _ _ => (cj_v_10_bindPairs (fun _ _ => (bd_cj (rd_cj fun _ => (cj_v_10_rebuilt (fun _ _ => (cj_v_10_negated (fun _ _ => (cj_v_10_join (fun _ => (cj_v_8_addUses_129 hR2 hQ))))))))))))))))))))))))))))))
theorem mn_v_8_addUses_2b {Q1 Q2 : iST → Prop} {R21 R22 : Int → Int → iST → Prop} {x1 : Int} {x3 : Int} {u : iST} (hR2 : ∀ r0 r1 r2, R21 r0 r1 r2 → R22 r0 r1 r2) (hQ : ∀ r0, Q1 r0 → Q2 r0) : pv_8_addUses_2b R21 Q1 x1 x3 u → pv_8_addUses_2b R22 Q2 x1 x3 u := (mn_v_7_isPair (fun _ _ => (br_mn (hQ _) (rd_mn fun _ => (br_mn (hQ _) (mn_v_7_left (fun _ _ => (mn_v_7_item (fun _ _ => (mn_v_0_theoremOf (fun _ _ => (mn_v_7_left (fun _ _ => (br_mn (mn_v_8_addUses_129 hR2 hQ) (br_mn (mn_v_8_addUses_129 hR2 hQ) (mn_v_7_right (fun _ _ => (mn_v_7_right (fun _ _ => (mn_v_10_bindPairs (fun _ _ => (bd_mn (rd_mn fun _ => (mn_v_10_rebuilt (fun _ _ => (mn_v_10_negated (fun _ _ => (mn_v_10_join (fun _ => (mn_v_8_addUses_129 hR2 hQ))))))))))))))))))))))))))))))
theorem wp_v_8_addUses_2b {Q1 Q2 : iST → Prop} {R21 R22 : Int → Int → iST → Prop} {x1 : Int} {x3 : Int} {u : iST} (hR2 : ∀ r0 r1 r2, R21 r0 r1 r2 → R22 r0 r1 r2) (hQ : ∀ r0, Q1 r0 → Q2 r0) : v_8_addUses_2b R21 Q1 x1 x3 u → pv_8_addUses_2b R22 Q2 x1 x3 u := (wp_v_7_isPair (fun _ _ => (br_wp (hQ _) (rd_wp fun _ => (br_wp (hQ _) (wp_v_7_left (fun _ _ => (wp_v_7_item (fun _ _ => (wp_v_0_theoremOf (fun _ _ => (wp_v_7_left (fun _ _ => (br_wp (wp_v_8_addUses_129 hR2 hQ) (br_wp (wp_v_8_addUses_129 hR2 hQ) (wp_v_7_right (fun _ _ => (wp_v_7_right (fun _ _ => (wp_v_10_bindPairs (fun _ _ => (bd_wp (rd_wp fun _ => (wp_v_10_rebuilt (fun _ _ => (wp_v_10_negated (fun _ _ => (wp_v_10_join (fun _ => (wp_v_8_addUses_129 hR2 hQ))))))))))))))))))))))))))))))
def pv_8_addUses_2 (Q : iST → Prop) (x1 : Int) (x3 : Int) (u : iST) : Prop := ∃ R2 : Int → Int → iST → Prop, (∀ (x1 : Int) (x3 : Int) (u : iST), R2 x1 x3 u → pv_8_addUses_2b R2 Q x1 x3 u) ∧ R2 x1 x3 u
theorem cj_v_8_addUses_2 {Q1 Q2 Q3 : iST → Prop}  {x1 : Int} {x3 : Int} {u : iST} (hQ : ∀ r0, Q1 r0 → Q2 r0 → Q3 r0) : v_8_addUses_2 Q1 x1 x3 u → pv_8_addUses_2 Q2 x1 x3 u → v_8_addUses_2 Q3 x1 x3 u := by
  intro a b R3 c3
  obtain ⟨R2, c2, b2⟩ := b
  exact a (fun r0 r1 r2 => R2 r0 r1 r2 → R3 r0 r1 r2) (fun r0 r1 r2 a b => c3 r0 r1 r2 (cj_v_8_addUses_2b (fun r0 r1 r2 a b => a b) hQ a (c2 r0 r1 r2 b))) b2
theorem pv_8_addUses_2_i  {Q : iST → Prop} {x1 : Int} {x3 : Int} {u : iST} (I : Int → Int → iST → Prop) (s : ∀ (x1 : Int) (x3 : Int) (u : iST), I x1 x3 u → pv_8_addUses_2b I Q x1 x3 u) (h : I x1 x3 u) : pv_8_addUses_2 Q x1 x3 u := ⟨I, s, h⟩
theorem mn_v_8_addUses_2 {Q1 Q2 : iST → Prop}  {x1 : Int} {x3 : Int} {u : iST} (hQ : ∀ r0, Q1 r0 → Q2 r0) : pv_8_addUses_2 Q1 x1 x3 u → pv_8_addUses_2 Q2 x1 x3 u := fun ⟨R, s, h⟩ => ⟨R, fun r0 r1 r2 a => mn_v_8_addUses_2b (fun r0 r1 r2 a => a) hQ (s r0 r1 r2 a), h⟩
theorem un_v_8_addUses_2  {Q : iST → Prop} {x1 : Int} {x3 : Int} {u : iST} : pv_8_addUses_2 Q x1 x3 u → pv_8_addUses_2b (fun x1 x3 u => pv_8_addUses_2 Q x1 x3 u) Q x1 x3 u := fun ⟨R, s, h⟩ => mn_v_8_addUses_2b (fun r0 r1 r2 a => ⟨R, s, a⟩) (fun _ h => h) (s _ _ _ h)
theorem fo_v_8_addUses_2  {Q : iST → Prop} {x1 : Int} {x3 : Int} {u : iST} : pv_8_addUses_2b (fun x1 x3 u => pv_8_addUses_2 Q x1 x3 u) Q x1 x3 u → pv_8_addUses_2 Q x1 x3 u := fun h => ⟨fun x1 x3 u => pv_8_addUses_2b (fun x1 x3 u => pv_8_addUses_2 Q x1 x3 u) Q x1 x3 u, fun r0 r1 r2 a => mn_v_8_addUses_2b (fun r0 r1 r2 a => un_v_8_addUses_2 a) (fun _ h => h) a, h⟩
theorem wp_v_8_addUses_2 {Q1 Q2 : iST → Prop}  {x1 : Int} {x3 : Int} {u : iST} (hQ : ∀ r0, Q1 r0 → Q2 r0) : v_8_addUses_2 Q1 x1 x3 u → pv_8_addUses_2 Q2 x1 x3 u := fun a => a (fun x1 x3 u => pv_8_addUses_2 Q2 x1 x3 u) (fun x1 x3 u b => fo_v_8_addUses_2 (wp_v_8_addUses_2b (fun r0 r1 r2 a => a) hQ b))
def pv_8_addUses (a0 : Int) (a1 : Int) (Q : iST → Prop) (u : iST) : Prop :=
  pv_8_addUses_2 Q a0 a1 u
theorem cj_v_8_addUses {Q1 Q2 Q3 : iST → Prop}  {a0 : Int} {a1 : Int} {u : iST} (hQ : ∀ r0, Q1 r0 → Q2 r0 → Q3 r0) : v_8_addUses a0 a1 Q1 u → pv_8_addUses a0 a1 Q2 u → v_8_addUses a0 a1 Q3 u := (cj_v_8_addUses_2  hQ)
theorem mn_v_8_addUses {Q1 Q2 : iST → Prop}  {a0 : Int} {a1 : Int} {u : iST} (hQ : ∀ r0, Q1 r0 → Q2 r0) : pv_8_addUses a0 a1 Q1 u → pv_8_addUses a0 a1 Q2 u := (mn_v_8_addUses_2  hQ)
theorem wp_v_8_addUses {Q1 Q2 : iST → Prop}  {a0 : Int} {a1 : Int} {u : iST} (hQ : ∀ r0, Q1 r0 → Q2 r0) : v_8_addUses a0 a1 Q1 u → pv_8_addUses a0 a1 Q2 u := (wp_v_8_addUses_2  hQ)
def pv_8_addTheoremClauses_99b (R99 : Int → Int → Int → Int → Int → iST → Prop) (Q : iST → Prop) (x2 : Int) (x4 : Int) (x5 : Int) (x6 : Int) (x7 : Int) (u : iST) : Prop :=
  br (1000000 ≤ x7) (
    Q u) (
    br (x6 = 0) (
      Q u) (
      rd (u.1 32) (fun v9 => 
      br (v9 ≠ 0) (
        Q u) (
        pv_4_newClause (fun v10 u => 
        pv_1_copy v10 x4 (fun u => 
        bdp x5 40 (rd (u.2.1 1 x5) (fun v12 => 
        rd (u.1 36) (fun v13 => 
        pv_7_right v13 (fun v14 u => 
        pv_8_addRulers v10 v12 v14 (fun u => 
        rd (u.1 36) (fun v16 => 
        pv_7_right v16 (fun v17 u => 
        pv_8_addInductionHypotheses v10 x2 x5 v17 (fun u => 
        pv_10_join v10 x2 (fun u => 
        pv_8_goToPath (-1) (fun v20 u => 
        ovp (x7 + 1) (
        R99 x2 x4 x5 v20 (x7 + 1) u)) u) u) u) u)) u) u)))) u) u))))
theorem cj_v_8_addTheoremClauses_99b {Q1 Q2 Q3 : iST → Prop} {R991 R992 R993 : Int → Int → Int → Int → Int → iST → Prop} {x2 : Int} {x4 : Int} {x5 : Int} {x6 : Int} {x7 : Int} {u : iST} (hR99 : ∀ r0 r1 r2 r3 r4 r5, R991 r0 r1 r2 r3 r4 r5 → R992 r0 r1 r2 r3 r4 r5 → R993 r0 r1 r2 r3 r4 r5) (hQ : ∀ r0, Q1 r0 → Q2 r0 → Q3 r0) : v_8_addTheoremClauses_99b R991 Q1 x2 x4 x5 x6 x7 u → pv_8_addTheoremClauses_99b R992 Q2 x2 x4 x5 x6 x7 u → v_8_addTheoremClauses_99b R993 Q3 x2 x4 x5 x6 x7 u := (br_cj (hQ _) (br_cj (hQ _) (rd_cj fun _ => (br_cj (hQ _) (cj_v_4_newClause (fun _ _ => (cj_v_1_copy (fun _ => (bd_cj (rd_cj fun _ => (rd_cj fun _ => (cj_v_7_right (fun _ _ => (cj_v_8_addRulers (fun _ => (rd_cj fun _ => (cj_v_7_right (fun _ _ => (cj_v_8_addInductionHypotheses (fun _ => (cj_v_10_join (fun _ => (cj_v_8_goToPath (fun _ _ => (ov_cj (hR99 _ _ _ _ _ _))))))))))))))))))))))))))
theorem mn_v_8_addTheoremClauses_99b {Q1 Q2 : iST → Prop} {R991 R992 : Int → Int → Int → Int → Int → iST → Prop} {x2 : Int} {x4 : Int} {x5 : Int} {x6 : Int} {x7 : Int} {u : iST} (hR99 : ∀ r0 r1 r2 r3 r4 r5, R991 r0 r1 r2 r3 r4 r5 → R992 r0 r1 r2 r3 r4 r5) (hQ : ∀ r0, Q1 r0 → Q2 r0) : pv_8_addTheoremClauses_99b R991 Q1 x2 x4 x5 x6 x7 u → pv_8_addTheoremClauses_99b R992 Q2 x2 x4 x5 x6 x7 u := (br_mn (hQ _) (br_mn (hQ _) (rd_mn fun _ => (br_mn (hQ _) (mn_v_4_newClause (fun _ _ => (mn_v_1_copy (fun _ => (bd_mn (rd_mn fun _ => (rd_mn fun _ => (mn_v_7_right (fun _ _ => (mn_v_8_addRulers (fun _ => (rd_mn fun _ => (mn_v_7_right (fun _ _ => (mn_v_8_addInductionHypotheses (fun _ => (mn_v_10_join (fun _ => (mn_v_8_goToPath (fun _ _ => (ov_mn (hR99 _ _ _ _ _ _))))))))))))))))))))))))))
theorem wp_v_8_addTheoremClauses_99b {Q1 Q2 : iST → Prop} {R991 R992 : Int → Int → Int → Int → Int → iST → Prop} {x2 : Int} {x4 : Int} {x5 : Int} {x6 : Int} {x7 : Int} {u : iST} (hR99 : ∀ r0 r1 r2 r3 r4 r5, R991 r0 r1 r2 r3 r4 r5 → R992 r0 r1 r2 r3 r4 r5) (hQ : ∀ r0, Q1 r0 → Q2 r0) : v_8_addTheoremClauses_99b R991 Q1 x2 x4 x5 x6 x7 u → pv_8_addTheoremClauses_99b R992 Q2 x2 x4 x5 x6 x7 u := (br_wp (hQ _) (br_wp (hQ _) (rd_wp fun _ => (br_wp (hQ _) (wp_v_4_newClause (fun _ _ => (wp_v_1_copy (fun _ => (bd_wp (rd_wp fun _ => (rd_wp fun _ => (wp_v_7_right (fun _ _ => (wp_v_8_addRulers (fun _ => (rd_wp fun _ => (wp_v_7_right (fun _ _ => (wp_v_8_addInductionHypotheses (fun _ => (wp_v_10_join (fun _ => (wp_v_8_goToPath (fun _ _ => (ov_wp (hR99 _ _ _ _ _ _))))))))))))))))))))))))))
def pv_8_addTheoremClauses_99 (Q : iST → Prop) (x2 : Int) (x4 : Int) (x5 : Int) (x6 : Int) (x7 : Int) (u : iST) : Prop := ∃ R99 : Int → Int → Int → Int → Int → iST → Prop, (∀ (x2 : Int) (x4 : Int) (x5 : Int) (x6 : Int) (x7 : Int) (u : iST), R99 x2 x4 x5 x6 x7 u → pv_8_addTheoremClauses_99b R99 Q x2 x4 x5 x6 x7 u) ∧ R99 x2 x4 x5 x6 x7 u
theorem cj_v_8_addTheoremClauses_99 {Q1 Q2 Q3 : iST → Prop}  {x2 : Int} {x4 : Int} {x5 : Int} {x6 : Int} {x7 : Int} {u : iST} (hQ : ∀ r0, Q1 r0 → Q2 r0 → Q3 r0) : v_8_addTheoremClauses_99 Q1 x2 x4 x5 x6 x7 u → pv_8_addTheoremClauses_99 Q2 x2 x4 x5 x6 x7 u → v_8_addTheoremClauses_99 Q3 x2 x4 x5 x6 x7 u := by
  intro a b R3 c3
  obtain ⟨R2, c2, b2⟩ := b
  exact a (fun r0 r1 r2 r3 r4 r5 => R2 r0 r1 r2 r3 r4 r5 → R3 r0 r1 r2 r3 r4 r5) (fun r0 r1 r2 r3 r4 r5 a b => c3 r0 r1 r2 r3 r4 r5 (cj_v_8_addTheoremClauses_99b (fun r0 r1 r2 r3 r4 r5 a b => a b) hQ a (c2 r0 r1 r2 r3 r4 r5 b))) b2
theorem pv_8_addTheoremClauses_99_i  {Q : iST → Prop} {x2 : Int} {x4 : Int} {x5 : Int} {x6 : Int} {x7 : Int} {u : iST} (I : Int → Int → Int → Int → Int → iST → Prop) (s : ∀ (x2 : Int) (x4 : Int) (x5 : Int) (x6 : Int) (x7 : Int) (u : iST), I x2 x4 x5 x6 x7 u → pv_8_addTheoremClauses_99b I Q x2 x4 x5 x6 x7 u) (h : I x2 x4 x5 x6 x7 u) : pv_8_addTheoremClauses_99 Q x2 x4 x5 x6 x7 u := ⟨I, s, h⟩
theorem mn_v_8_addTheoremClauses_99 {Q1 Q2 : iST → Prop}  {x2 : Int} {x4 : Int} {x5 : Int} {x6 : Int} {x7 : Int} {u : iST} (hQ : ∀ r0, Q1 r0 → Q2 r0) : pv_8_addTheoremClauses_99 Q1 x2 x4 x5 x6 x7 u → pv_8_addTheoremClauses_99 Q2 x2 x4 x5 x6 x7 u := fun ⟨R, s, h⟩ => ⟨R, fun r0 r1 r2 r3 r4 r5 a => mn_v_8_addTheoremClauses_99b (fun r0 r1 r2 r3 r4 r5 a => a) hQ (s r0 r1 r2 r3 r4 r5 a), h⟩
theorem un_v_8_addTheoremClauses_99  {Q : iST → Prop} {x2 : Int} {x4 : Int} {x5 : Int} {x6 : Int} {x7 : Int} {u : iST} : pv_8_addTheoremClauses_99 Q x2 x4 x5 x6 x7 u → pv_8_addTheoremClauses_99b (fun x2 x4 x5 x6 x7 u => pv_8_addTheoremClauses_99 Q x2 x4 x5 x6 x7 u) Q x2 x4 x5 x6 x7 u := fun ⟨R, s, h⟩ => mn_v_8_addTheoremClauses_99b (fun r0 r1 r2 r3 r4 r5 a => ⟨R, s, a⟩) (fun _ h => h) (s _ _ _ _ _ _ h)
theorem fo_v_8_addTheoremClauses_99  {Q : iST → Prop} {x2 : Int} {x4 : Int} {x5 : Int} {x6 : Int} {x7 : Int} {u : iST} : pv_8_addTheoremClauses_99b (fun x2 x4 x5 x6 x7 u => pv_8_addTheoremClauses_99 Q x2 x4 x5 x6 x7 u) Q x2 x4 x5 x6 x7 u → pv_8_addTheoremClauses_99 Q x2 x4 x5 x6 x7 u := fun h => ⟨fun x2 x4 x5 x6 x7 u => pv_8_addTheoremClauses_99b (fun x2 x4 x5 x6 x7 u => pv_8_addTheoremClauses_99 Q x2 x4 x5 x6 x7 u) Q x2 x4 x5 x6 x7 u, fun r0 r1 r2 r3 r4 r5 a => mn_v_8_addTheoremClauses_99b (fun r0 r1 r2 r3 r4 r5 a => un_v_8_addTheoremClauses_99 a) (fun _ h => h) a, h⟩
theorem wp_v_8_addTheoremClauses_99 {Q1 Q2 : iST → Prop}  {x2 : Int} {x4 : Int} {x5 : Int} {x6 : Int} {x7 : Int} {u : iST} (hQ : ∀ r0, Q1 r0 → Q2 r0) : v_8_addTheoremClauses_99 Q1 x2 x4 x5 x6 x7 u → pv_8_addTheoremClauses_99 Q2 x2 x4 x5 x6 x7 u := fun a => a (fun x2 x4 x5 x6 x7 u => pv_8_addTheoremClauses_99 Q2 x2 x4 x5 x6 x7 u) (fun x2 x4 x5 x6 x7 u b => fo_v_8_addTheoremClauses_99 (wp_v_8_addTheoremClauses_99b (fun r0 r1 r2 r3 r4 r5 a => a) hQ b))
def pv_8_addTheoremClauses_48 (Q : iST → Prop) (x2 : Int) (x4 : Int) (y0 : Int) (u : iST) : Prop :=
  br (y0 ≠ (-1)) (
    bdp y0 40 (rd (u.2.1 3 y0) (fun v7 => 
    pv_8_goToPath v7 (fun v8 u => 
    pv_8_addTheoremClauses_99 Q x2 x4 y0 v8 0 u) u))) (
    pv_4_newClause (fun v22 u => 
    pv_1_copy v22 x4 (fun u => 
    pv_10_join v22 x2 (fun u => 
    Q u) u) u) u)
theorem cj_v_8_addTheoremClauses_48 {Q1 Q2 Q3 : iST → Prop}  {x2 : Int} {x4 : Int} {y0 : Int} {u : iST} (hQ : ∀ r0, Q1 r0 → Q2 r0 → Q3 r0) : v_8_addTheoremClauses_48 Q1 x2 x4 y0 u → pv_8_addTheoremClauses_48 Q2 x2 x4 y0 u → v_8_addTheoremClauses_48 Q3 x2 x4 y0 u := (br_cj (bd_cj (rd_cj fun _ => (cj_v_8_goToPath (fun _ _ => (cj_v_8_addTheoremClauses_99  hQ))))) (cj_v_4_newClause (fun _ _ => (cj_v_1_copy (fun _ => (cj_v_10_join (fun _ => (hQ _))))))))
theorem mn_v_8_addTheoremClauses_48 {Q1 Q2 : iST → Prop}  {x2 : Int} {x4 : Int} {y0 : Int} {u : iST} (hQ : ∀ r0, Q1 r0 → Q2 r0) : pv_8_addTheoremClauses_48 Q1 x2 x4 y0 u → pv_8_addTheoremClauses_48 Q2 x2 x4 y0 u := (br_mn (bd_mn (rd_mn fun _ => (mn_v_8_goToPath (fun _ _ => (mn_v_8_addTheoremClauses_99  hQ))))) (mn_v_4_newClause (fun _ _ => (mn_v_1_copy (fun _ => (mn_v_10_join (fun _ => (hQ _))))))))
theorem wp_v_8_addTheoremClauses_48 {Q1 Q2 : iST → Prop}  {x2 : Int} {x4 : Int} {y0 : Int} {u : iST} (hQ : ∀ r0, Q1 r0 → Q2 r0) : v_8_addTheoremClauses_48 Q1 x2 x4 y0 u → pv_8_addTheoremClauses_48 Q2 x2 x4 y0 u := (br_wp (bd_wp (rd_wp fun _ => (wp_v_8_goToPath (fun _ _ => (wp_v_8_addTheoremClauses_99  hQ))))) (wp_v_4_newClause (fun _ _ => (wp_v_1_copy (fun _ => (wp_v_10_join (fun _ => (hQ _))))))))
def pv_8_addTheoremClauses (a1 : Int) (a2 : Int) (Q : iST → Prop) (u : iST) : Prop :=
  pv_1_clear 150 (fun u => 
  pv_8_addUses 150 a2 (fun u => 
  rd (u.1 36) (fun v3 => 
  br (v3 ≠ (-1)) (
    rd (u.1 36) (fun v4 => 
    pv_7_left v4 (fun v5 u => 
    pv_0_functionOf v5 (fun v6 u => 
    pv_8_addTheoremClauses_48 Q a1 150 v6 u) u) u)) (
    pv_8_addTheoremClauses_48 Q a1 150 (-1) u))) u) u
theorem cj_v_8_addTheoremClauses {Q1 Q2 Q3 : iST → Prop}  {a1 : Int} {a2 : Int} {u : iST} (hQ : ∀ r0, Q1 r0 → Q2 r0 → Q3 r0) : v_8_addTheoremClauses a1 a2 Q1 u → pv_8_addTheoremClauses a1 a2 Q2 u → v_8_addTheoremClauses a1 a2 Q3 u := (cj_v_1_clear (fun _ => (cj_v_8_addUses (fun _ => (rd_cj fun _ => (br_cj (rd_cj fun _ => (cj_v_7_left (fun _ _ => (cj_v_0_functionOf (fun _ _ => (cj_v_8_addTheoremClauses_48  hQ)))))) (cj_v_8_addTheoremClauses_48  hQ)))))))
theorem mn_v_8_addTheoremClauses {Q1 Q2 : iST → Prop}  {a1 : Int} {a2 : Int} {u : iST} (hQ : ∀ r0, Q1 r0 → Q2 r0) : pv_8_addTheoremClauses a1 a2 Q1 u → pv_8_addTheoremClauses a1 a2 Q2 u := (mn_v_1_clear (fun _ => (mn_v_8_addUses (fun _ => (rd_mn fun _ => (br_mn (rd_mn fun _ => (mn_v_7_left (fun _ _ => (mn_v_0_functionOf (fun _ _ => (mn_v_8_addTheoremClauses_48  hQ)))))) (mn_v_8_addTheoremClauses_48  hQ)))))))
theorem wp_v_8_addTheoremClauses {Q1 Q2 : iST → Prop}  {a1 : Int} {a2 : Int} {u : iST} (hQ : ∀ r0, Q1 r0 → Q2 r0) : v_8_addTheoremClauses a1 a2 Q1 u → pv_8_addTheoremClauses a1 a2 Q2 u := (wp_v_1_clear (fun _ => (wp_v_8_addUses (fun _ => (rd_wp fun _ => (br_wp (rd_wp fun _ => (wp_v_7_left (fun _ _ => (wp_v_0_functionOf (fun _ _ => (wp_v_8_addTheoremClauses_48  hQ)))))) (wp_v_8_addTheoremClauses_48  hQ)))))))
def pv_8_useAsked (a0 : Int) (a1 : Int) (Q : Int → iST → Prop) (u : iST) : Prop :=
  pv_7_isName a0 (fun v1 u => 
  br (v1 = 0) (
    Q 2 u) (
    pv_10_bindPairs a1 (fun v2 u => 
    br (v2 ≠ 0) (
      pv_0_theoremOf a0 (fun v3 u => 
      br (v3 ≠ (-1)) (
        bdp v3 60 (rd (u.2.1 6 v3) (fun v4 => 
        pv_10_hasBound v4 (fun v5 u => 
        br (v5 = 0) (
          Q 2 u) (
          Q 0 u)) u))) (
        Q 3 u)) u) (
      Q 2 u)) u)) u
theorem cj_v_8_useAsked {Q1 Q2 Q3 : Int → iST → Prop}  {a0 : Int} {a1 : Int} {u : iST} (hQ : ∀ r0 r1, Q1 r0 r1 → Q2 r0 r1 → Q3 r0 r1) : v_8_useAsked a0 a1 Q1 u → pv_8_useAsked a0 a1 Q2 u → v_8_useAsked a0 a1 Q3 u := (cj_v_7_isName (fun _ _ => (br_cj (hQ _ _) (cj_v_10_bindPairs (fun _ _ => (br_cj (cj_v_0_theoremOf (fun _ _ => (br_cj (bd_cj (rd_cj fun _ => (cj_v_10_hasBound (fun _ _ => (br_cj (hQ _ _) (hQ _ _)))))) (hQ _ _)))) (hQ _ _)))))))
theorem mn_v_8_useAsked {Q1 Q2 : Int → iST → Prop}  {a0 : Int} {a1 : Int} {u : iST} (hQ : ∀ r0 r1, Q1 r0 r1 → Q2 r0 r1) : pv_8_useAsked a0 a1 Q1 u → pv_8_useAsked a0 a1 Q2 u := (mn_v_7_isName (fun _ _ => (br_mn (hQ _ _) (mn_v_10_bindPairs (fun _ _ => (br_mn (mn_v_0_theoremOf (fun _ _ => (br_mn (bd_mn (rd_mn fun _ => (mn_v_10_hasBound (fun _ _ => (br_mn (hQ _ _) (hQ _ _)))))) (hQ _ _)))) (hQ _ _)))))))
theorem wp_v_8_useAsked {Q1 Q2 : Int → iST → Prop}  {a0 : Int} {a1 : Int} {u : iST} (hQ : ∀ r0 r1, Q1 r0 r1 → Q2 r0 r1) : v_8_useAsked a0 a1 Q1 u → pv_8_useAsked a0 a1 Q2 u := (wp_v_7_isName (fun _ _ => (br_wp (hQ _ _) (wp_v_10_bindPairs (fun _ _ => (br_wp (wp_v_0_theoremOf (fun _ _ => (br_wp (bd_wp (rd_wp fun _ => (wp_v_10_hasBound (fun _ _ => (br_wp (hQ _ _) (hQ _ _)))))) (hQ _ _)))) (hQ _ _)))))))
def pv_8_offAsked_59 (R4 : Int → Int → iST → Prop) (Q : Int → iST → Prop) (x3 : Int) (y0 : Int) (u : iST) : Prop :=
  pv_7_right x3 (fun v6 u => 
  R4 y0 v6 u) u
theorem cj_v_8_offAsked_59 {Q1 Q2 Q3 : Int → iST → Prop} {R41 R42 R43 : Int → Int → iST → Prop} {x3 : Int} {y0 : Int} {u : iST} (hR4 : ∀ r0 r1 r2, R41 r0 r1 r2 → R42 r0 r1 r2 → R43 r0 r1 r2) (hQ : ∀ r0 r1, Q1 r0 r1 → Q2 r0 r1 → Q3 r0 r1) : v_8_offAsked_59 R41 Q1 x3 y0 u → pv_8_offAsked_59 R42 Q2 x3 y0 u → v_8_offAsked_59 R43 Q3 x3 y0 u := (cj_v_7_right (fun _ _ => (hR4 _ _ _)))
theorem mn_v_8_offAsked_59 {Q1 Q2 : Int → iST → Prop} {R41 R42 : Int → Int → iST → Prop} {x3 : Int} {y0 : Int} {u : iST} (hR4 : ∀ r0 r1 r2, R41 r0 r1 r2 → R42 r0 r1 r2) (hQ : ∀ r0 r1, Q1 r0 r1 → Q2 r0 r1) : pv_8_offAsked_59 R41 Q1 x3 y0 u → pv_8_offAsked_59 R42 Q2 x3 y0 u := (mn_v_7_right (fun _ _ => (hR4 _ _ _)))
theorem wp_v_8_offAsked_59 {Q1 Q2 : Int → iST → Prop} {R41 R42 : Int → Int → iST → Prop} {x3 : Int} {y0 : Int} {u : iST} (hR4 : ∀ r0 r1 r2, R41 r0 r1 r2 → R42 r0 r1 r2) (hQ : ∀ r0 r1, Q1 r0 r1 → Q2 r0 r1) : v_8_offAsked_59 R41 Q1 x3 y0 u → pv_8_offAsked_59 R42 Q2 x3 y0 u := (wp_v_7_right (fun _ _ => (hR4 _ _ _)))
def pv_8_offAsked_4b (R4 : Int → Int → iST → Prop) (Q : Int → iST → Prop) (x2 : Int) (x3 : Int) (u : iST) : Prop :=
  pv_7_isPair x3 (fun v1 u => 
  br (v1 = 0) (
    Q x2 u) (
    pv_7_left x3 (fun v2 u => 
    pv_7_isName v2 (fun v3 u => 
    br (v3 ≠ 0) (
      pv_7_left x3 (fun v4 u => 
      pv_0_theoremOf v4 (fun v5 u => 
      br (v5 ≠ (-1)) (
        pv_8_offAsked_59 R4 Q x3 x2 u) (
        pv_8_offAsked_59 R4 Q x3 3 u)) u) u) (
      Q 2 u)) u) u)) u
theorem cj_v_8_offAsked_4b {Q1 Q2 Q3 : Int → iST → Prop} {R41 R42 R43 : Int → Int → iST → Prop} {x2 : Int} {x3 : Int} {u : iST} (hR4 : ∀ r0 r1 r2, R41 r0 r1 r2 → R42 r0 r1 r2 → R43 r0 r1 r2) (hQ : ∀ r0 r1, Q1 r0 r1 → Q2 r0 r1 → Q3 r0 r1) : v_8_offAsked_4b R41 Q1 x2 x3 u → pv_8_offAsked_4b R42 Q2 x2 x3 u → v_8_offAsked_4b R43 Q3 x2 x3 u := (cj_v_7_isPair (fun _ _ => (br_cj (hQ _ _) (cj_v_7_left (fun _ _ => (cj_v_7_isName (fun _ _ => (br_cj (cj_v_7_left (fun _ _ => (cj_v_0_theoremOf (fun _ _ => (br_cj (cj_v_8_offAsked_59 hR4 hQ) (cj_v_8_offAsked_59 hR4 hQ)))))) (hQ _ _)))))))))
theorem mn_v_8_offAsked_4b {Q1 Q2 : Int → iST → Prop} {R41 R42 : Int → Int → iST → Prop} {x2 : Int} {x3 : Int} {u : iST} (hR4 : ∀ r0 r1 r2, R41 r0 r1 r2 → R42 r0 r1 r2) (hQ : ∀ r0 r1, Q1 r0 r1 → Q2 r0 r1) : pv_8_offAsked_4b R41 Q1 x2 x3 u → pv_8_offAsked_4b R42 Q2 x2 x3 u := (mn_v_7_isPair (fun _ _ => (br_mn (hQ _ _) (mn_v_7_left (fun _ _ => (mn_v_7_isName (fun _ _ => (br_mn (mn_v_7_left (fun _ _ => (mn_v_0_theoremOf (fun _ _ => (br_mn (mn_v_8_offAsked_59 hR4 hQ) (mn_v_8_offAsked_59 hR4 hQ)))))) (hQ _ _)))))))))
theorem wp_v_8_offAsked_4b {Q1 Q2 : Int → iST → Prop} {R41 R42 : Int → Int → iST → Prop} {x2 : Int} {x3 : Int} {u : iST} (hR4 : ∀ r0 r1 r2, R41 r0 r1 r2 → R42 r0 r1 r2) (hQ : ∀ r0 r1, Q1 r0 r1 → Q2 r0 r1) : v_8_offAsked_4b R41 Q1 x2 x3 u → pv_8_offAsked_4b R42 Q2 x2 x3 u := (wp_v_7_isPair (fun _ _ => (br_wp (hQ _ _) (wp_v_7_left (fun _ _ => (wp_v_7_isName (fun _ _ => (br_wp (wp_v_7_left (fun _ _ => (wp_v_0_theoremOf (fun _ _ => (br_wp (wp_v_8_offAsked_59 hR4 hQ) (wp_v_8_offAsked_59 hR4 hQ)))))) (hQ _ _)))))))))
def pv_8_offAsked_4 (Q : Int → iST → Prop) (x2 : Int) (x3 : Int) (u : iST) : Prop := ∃ R4 : Int → Int → iST → Prop, (∀ (x2 : Int) (x3 : Int) (u : iST), R4 x2 x3 u → pv_8_offAsked_4b R4 Q x2 x3 u) ∧ R4 x2 x3 u
theorem cj_v_8_offAsked_4 {Q1 Q2 Q3 : Int → iST → Prop}  {x2 : Int} {x3 : Int} {u : iST} (hQ : ∀ r0 r1, Q1 r0 r1 → Q2 r0 r1 → Q3 r0 r1) : v_8_offAsked_4 Q1 x2 x3 u → pv_8_offAsked_4 Q2 x2 x3 u → v_8_offAsked_4 Q3 x2 x3 u := by
  intro a b R3 c3
  obtain ⟨R2, c2, b2⟩ := b
  exact a (fun r0 r1 r2 => R2 r0 r1 r2 → R3 r0 r1 r2) (fun r0 r1 r2 a b => c3 r0 r1 r2 (cj_v_8_offAsked_4b (fun r0 r1 r2 a b => a b) hQ a (c2 r0 r1 r2 b))) b2
theorem pv_8_offAsked_4_i  {Q : Int → iST → Prop} {x2 : Int} {x3 : Int} {u : iST} (I : Int → Int → iST → Prop) (s : ∀ (x2 : Int) (x3 : Int) (u : iST), I x2 x3 u → pv_8_offAsked_4b I Q x2 x3 u) (h : I x2 x3 u) : pv_8_offAsked_4 Q x2 x3 u := ⟨I, s, h⟩
theorem mn_v_8_offAsked_4 {Q1 Q2 : Int → iST → Prop}  {x2 : Int} {x3 : Int} {u : iST} (hQ : ∀ r0 r1, Q1 r0 r1 → Q2 r0 r1) : pv_8_offAsked_4 Q1 x2 x3 u → pv_8_offAsked_4 Q2 x2 x3 u := fun ⟨R, s, h⟩ => ⟨R, fun r0 r1 r2 a => mn_v_8_offAsked_4b (fun r0 r1 r2 a => a) hQ (s r0 r1 r2 a), h⟩
theorem un_v_8_offAsked_4  {Q : Int → iST → Prop} {x2 : Int} {x3 : Int} {u : iST} : pv_8_offAsked_4 Q x2 x3 u → pv_8_offAsked_4b (fun x2 x3 u => pv_8_offAsked_4 Q x2 x3 u) Q x2 x3 u := fun ⟨R, s, h⟩ => mn_v_8_offAsked_4b (fun r0 r1 r2 a => ⟨R, s, a⟩) (fun _ _ h => h) (s _ _ _ h)
theorem fo_v_8_offAsked_4  {Q : Int → iST → Prop} {x2 : Int} {x3 : Int} {u : iST} : pv_8_offAsked_4b (fun x2 x3 u => pv_8_offAsked_4 Q x2 x3 u) Q x2 x3 u → pv_8_offAsked_4 Q x2 x3 u := fun h => ⟨fun x2 x3 u => pv_8_offAsked_4b (fun x2 x3 u => pv_8_offAsked_4 Q x2 x3 u) Q x2 x3 u, fun r0 r1 r2 a => mn_v_8_offAsked_4b (fun r0 r1 r2 a => un_v_8_offAsked_4 a) (fun _ _ h => h) a, h⟩
theorem wp_v_8_offAsked_4 {Q1 Q2 : Int → iST → Prop}  {x2 : Int} {x3 : Int} {u : iST} (hQ : ∀ r0 r1, Q1 r0 r1 → Q2 r0 r1) : v_8_offAsked_4 Q1 x2 x3 u → pv_8_offAsked_4 Q2 x2 x3 u := fun a => a (fun x2 x3 u => pv_8_offAsked_4 Q2 x2 x3 u) (fun x2 x3 u b => fo_v_8_offAsked_4 (wp_v_8_offAsked_4b (fun r0 r1 r2 a => a) hQ b))
def pv_8_offAsked (a0 : Int) (Q : Int → iST → Prop) (u : iST) : Prop :=
  pv_8_offAsked_4 Q 0 a0 u
theorem cj_v_8_offAsked {Q1 Q2 Q3 : Int → iST → Prop}  {a0 : Int} {u : iST} (hQ : ∀ r0 r1, Q1 r0 r1 → Q2 r0 r1 → Q3 r0 r1) : v_8_offAsked a0 Q1 u → pv_8_offAsked a0 Q2 u → v_8_offAsked a0 Q3 u := (cj_v_8_offAsked_4  hQ)
theorem mn_v_8_offAsked {Q1 Q2 : Int → iST → Prop}  {a0 : Int} {u : iST} (hQ : ∀ r0 r1, Q1 r0 r1 → Q2 r0 r1) : pv_8_offAsked a0 Q1 u → pv_8_offAsked a0 Q2 u := (mn_v_8_offAsked_4  hQ)
theorem wp_v_8_offAsked {Q1 Q2 : Int → iST → Prop}  {a0 : Int} {u : iST} (hQ : ∀ r0 r1, Q1 r0 r1 → Q2 r0 r1) : v_8_offAsked a0 Q1 u → pv_8_offAsked a0 Q2 u := (wp_v_8_offAsked_4  hQ)
def pv_8_hintsAsked_188 (R12 : Int → Int → Int → iST → Prop) (Q : Int → iST → Prop) (x2 : Int) (x3 : Int) (x4 : Int) (x8 : Int) (u : iST) : Prop :=
  br (x8 ≠ 2) (
    rd (if x2 < x8 then x8 else x2) (fun v5 => 
    pv_7_right x4 (fun v6 u => 
    R12 v5 x3 v6 u) u)) (
    Q x8 u)
theorem cj_v_8_hintsAsked_188 {Q1 Q2 Q3 : Int → iST → Prop} {R121 R122 R123 : Int → Int → Int → iST → Prop} {x2 : Int} {x3 : Int} {x4 : Int} {x8 : Int} {u : iST} (hR12 : ∀ r0 r1 r2 r3, R121 r0 r1 r2 r3 → R122 r0 r1 r2 r3 → R123 r0 r1 r2 r3) (hQ : ∀ r0 r1, Q1 r0 r1 → Q2 r0 r1 → Q3 r0 r1) : v_8_hintsAsked_188 R121 Q1 x2 x3 x4 x8 u → pv_8_hintsAsked_188 R122 Q2 x2 x3 x4 x8 u → v_8_hintsAsked_188 R123 Q3 x2 x3 x4 x8 u := (br_cj (rd_cj fun _ => (cj_v_7_right (fun _ _ => (hR12 _ _ _ _)))) (hQ _ _))
theorem mn_v_8_hintsAsked_188 {Q1 Q2 : Int → iST → Prop} {R121 R122 : Int → Int → Int → iST → Prop} {x2 : Int} {x3 : Int} {x4 : Int} {x8 : Int} {u : iST} (hR12 : ∀ r0 r1 r2 r3, R121 r0 r1 r2 r3 → R122 r0 r1 r2 r3) (hQ : ∀ r0 r1, Q1 r0 r1 → Q2 r0 r1) : pv_8_hintsAsked_188 R121 Q1 x2 x3 x4 x8 u → pv_8_hintsAsked_188 R122 Q2 x2 x3 x4 x8 u := (br_mn (rd_mn fun _ => (mn_v_7_right (fun _ _ => (hR12 _ _ _ _)))) (hQ _ _))
theorem wp_v_8_hintsAsked_188 {Q1 Q2 : Int → iST → Prop} {R121 R122 : Int → Int → Int → iST → Prop} {x2 : Int} {x3 : Int} {x4 : Int} {x8 : Int} {u : iST} (hR12 : ∀ r0 r1 r2 r3, R121 r0 r1 r2 r3 → R122 r0 r1 r2 r3) (hQ : ∀ r0 r1, Q1 r0 r1 → Q2 r0 r1) : v_8_hintsAsked_188 R121 Q1 x2 x3 x4 x8 u → pv_8_hintsAsked_188 R122 Q2 x2 x3 x4 x8 u := (br_wp (rd_wp fun _ => (wp_v_7_right (fun _ _ => (hR12 _ _ _ _)))) (hQ _ _))
def pv_8_hintsAsked_118 (R12 : Int → Int → Int → iST → Prop) (Q : Int → iST → Prop) (x2 : Int) (x3 : Int) (x4 : Int) (x5 : Int) (x7 : Int) (x8 : Int) (u : iST) : Prop :=
  br (x7 ≠ 26) (
    br (x7 ≠ 24) (
      pv_8_hintsAsked_188 R12 Q x2 x3 x4 x8 u) (
      br (x3 ≠ 0) (
        pv_8_hintsAsked_188 R12 Q x2 x3 x4 x8 u) (
        pv_7_right x5 (fun v7 u => 
        pv_8_offAsked v7 (fun v8 u => 
        pv_8_hintsAsked_188 R12 Q x2 1 x4 v8 u) u) u))) (
    pv_7_item x5 1 (fun v9 u => 
    pv_7_right x5 (fun v10 u => 
    pv_7_right v10 (fun v11 u => 
    pv_8_useAsked v9 v11 (fun v12 u => 
    pv_8_hintsAsked_188 R12 Q x2 x3 x4 v12 u) u) u) u) u)
theorem cj_v_8_hintsAsked_118 {Q1 Q2 Q3 : Int → iST → Prop} {R121 R122 R123 : Int → Int → Int → iST → Prop} {x2 : Int} {x3 : Int} {x4 : Int} {x5 : Int} {x7 : Int} {x8 : Int} {u : iST} (hR12 : ∀ r0 r1 r2 r3, R121 r0 r1 r2 r3 → R122 r0 r1 r2 r3 → R123 r0 r1 r2 r3) (hQ : ∀ r0 r1, Q1 r0 r1 → Q2 r0 r1 → Q3 r0 r1) : v_8_hintsAsked_118 R121 Q1 x2 x3 x4 x5 x7 x8 u → pv_8_hintsAsked_118 R122 Q2 x2 x3 x4 x5 x7 x8 u → v_8_hintsAsked_118 R123 Q3 x2 x3 x4 x5 x7 x8 u := (br_cj (br_cj (cj_v_8_hintsAsked_188 hR12 hQ) (br_cj (cj_v_8_hintsAsked_188 hR12 hQ) (cj_v_7_right (fun _ _ => (cj_v_8_offAsked (fun _ _ => (cj_v_8_hintsAsked_188 hR12 hQ))))))) (cj_v_7_item (fun _ _ => (cj_v_7_right (fun _ _ => (cj_v_7_right (fun _ _ => (cj_v_8_useAsked (fun _ _ => (cj_v_8_hintsAsked_188 hR12 hQ))))))))))
theorem mn_v_8_hintsAsked_118 {Q1 Q2 : Int → iST → Prop} {R121 R122 : Int → Int → Int → iST → Prop} {x2 : Int} {x3 : Int} {x4 : Int} {x5 : Int} {x7 : Int} {x8 : Int} {u : iST} (hR12 : ∀ r0 r1 r2 r3, R121 r0 r1 r2 r3 → R122 r0 r1 r2 r3) (hQ : ∀ r0 r1, Q1 r0 r1 → Q2 r0 r1) : pv_8_hintsAsked_118 R121 Q1 x2 x3 x4 x5 x7 x8 u → pv_8_hintsAsked_118 R122 Q2 x2 x3 x4 x5 x7 x8 u := (br_mn (br_mn (mn_v_8_hintsAsked_188 hR12 hQ) (br_mn (mn_v_8_hintsAsked_188 hR12 hQ) (mn_v_7_right (fun _ _ => (mn_v_8_offAsked (fun _ _ => (mn_v_8_hintsAsked_188 hR12 hQ))))))) (mn_v_7_item (fun _ _ => (mn_v_7_right (fun _ _ => (mn_v_7_right (fun _ _ => (mn_v_8_useAsked (fun _ _ => (mn_v_8_hintsAsked_188 hR12 hQ))))))))))
theorem wp_v_8_hintsAsked_118 {Q1 Q2 : Int → iST → Prop} {R121 R122 : Int → Int → Int → iST → Prop} {x2 : Int} {x3 : Int} {x4 : Int} {x5 : Int} {x7 : Int} {x8 : Int} {u : iST} (hR12 : ∀ r0 r1 r2 r3, R121 r0 r1 r2 r3 → R122 r0 r1 r2 r3) (hQ : ∀ r0 r1, Q1 r0 r1 → Q2 r0 r1) : v_8_hintsAsked_118 R121 Q1 x2 x3 x4 x5 x7 x8 u → pv_8_hintsAsked_118 R122 Q2 x2 x3 x4 x5 x7 x8 u := (br_wp (br_wp (wp_v_8_hintsAsked_188 hR12 hQ) (br_wp (wp_v_8_hintsAsked_188 hR12 hQ) (wp_v_7_right (fun _ _ => (wp_v_8_offAsked (fun _ _ => (wp_v_8_hintsAsked_188 hR12 hQ))))))) (wp_v_7_item (fun _ _ => (wp_v_7_right (fun _ _ => (wp_v_7_right (fun _ _ => (wp_v_8_useAsked (fun _ _ => (wp_v_8_hintsAsked_188 hR12 hQ))))))))))
def pv_8_hintsAsked_65 (R12 : Int → Int → Int → iST → Prop) (Q : Int → iST → Prop) (x2 : Int) (x3 : Int) (x4 : Int) (x5 : Int) (x6 : Int) (y0 : Int) (u : iST) : Prop :=
  br (y0 ≠ 43) (
    pv_8_hintsAsked_118 R12 Q x2 x3 x4 x5 y0 2 u) (
    br (x6 ≠ 2) (
      pv_8_hintsAsked_118 R12 Q x2 x3 x4 x5 y0 2 u) (
      rd (u.1 36) (fun v13 => 
      br (v13 ≠ (-1)) (
        pv_8_hintsAsked_118 R12 Q x2 x3 x4 x5 y0 2 u) (
        pv_7_item x5 1 (fun v14 u => 
        sw (iI u 36 v14) (fun u => 
        rd (u.1 36) (fun v15 => 
        pv_8_inductionAsked v15 (fun v16 u => 
        pv_8_hintsAsked_188 R12 Q x2 x3 x4 v16 u) u))) u))))
theorem cj_v_8_hintsAsked_65 {Q1 Q2 Q3 : Int → iST → Prop} {R121 R122 R123 : Int → Int → Int → iST → Prop} {x2 : Int} {x3 : Int} {x4 : Int} {x5 : Int} {x6 : Int} {y0 : Int} {u : iST} (hR12 : ∀ r0 r1 r2 r3, R121 r0 r1 r2 r3 → R122 r0 r1 r2 r3 → R123 r0 r1 r2 r3) (hQ : ∀ r0 r1, Q1 r0 r1 → Q2 r0 r1 → Q3 r0 r1) : v_8_hintsAsked_65 R121 Q1 x2 x3 x4 x5 x6 y0 u → pv_8_hintsAsked_65 R122 Q2 x2 x3 x4 x5 x6 y0 u → v_8_hintsAsked_65 R123 Q3 x2 x3 x4 x5 x6 y0 u := (br_cj (cj_v_8_hintsAsked_118 hR12 hQ) (br_cj (cj_v_8_hintsAsked_118 hR12 hQ) (rd_cj fun _ => (br_cj (cj_v_8_hintsAsked_118 hR12 hQ) (cj_v_7_item (fun _ _ => (sw_cj fun _ => (rd_cj fun _ => (cj_v_8_inductionAsked (fun _ _ => (cj_v_8_hintsAsked_188 hR12 hQ)))))))))))
theorem mn_v_8_hintsAsked_65 {Q1 Q2 : Int → iST → Prop} {R121 R122 : Int → Int → Int → iST → Prop} {x2 : Int} {x3 : Int} {x4 : Int} {x5 : Int} {x6 : Int} {y0 : Int} {u : iST} (hR12 : ∀ r0 r1 r2 r3, R121 r0 r1 r2 r3 → R122 r0 r1 r2 r3) (hQ : ∀ r0 r1, Q1 r0 r1 → Q2 r0 r1) : pv_8_hintsAsked_65 R121 Q1 x2 x3 x4 x5 x6 y0 u → pv_8_hintsAsked_65 R122 Q2 x2 x3 x4 x5 x6 y0 u := (br_mn (mn_v_8_hintsAsked_118 hR12 hQ) (br_mn (mn_v_8_hintsAsked_118 hR12 hQ) (rd_mn fun _ => (br_mn (mn_v_8_hintsAsked_118 hR12 hQ) (mn_v_7_item (fun _ _ => (sw_mn fun _ => (rd_mn fun _ => (mn_v_8_inductionAsked (fun _ _ => (mn_v_8_hintsAsked_188 hR12 hQ)))))))))))
theorem wp_v_8_hintsAsked_65 {Q1 Q2 : Int → iST → Prop} {R121 R122 : Int → Int → Int → iST → Prop} {x2 : Int} {x3 : Int} {x4 : Int} {x5 : Int} {x6 : Int} {y0 : Int} {u : iST} (hR12 : ∀ r0 r1 r2 r3, R121 r0 r1 r2 r3 → R122 r0 r1 r2 r3) (hQ : ∀ r0 r1, Q1 r0 r1 → Q2 r0 r1) : v_8_hintsAsked_65 R121 Q1 x2 x3 x4 x5 x6 y0 u → pv_8_hintsAsked_65 R122 Q2 x2 x3 x4 x5 x6 y0 u := (br_wp (wp_v_8_hintsAsked_118 hR12 hQ) (br_wp (wp_v_8_hintsAsked_118 hR12 hQ) (rd_wp fun _ => (br_wp (wp_v_8_hintsAsked_118 hR12 hQ) (wp_v_7_item (fun _ _ => (sw_wp fun _ => (rd_wp fun _ => (wp_v_8_inductionAsked (fun _ _ => (wp_v_8_hintsAsked_188 hR12 hQ)))))))))))
def pv_8_hintsAsked_12b (R12 : Int → Int → Int → iST → Prop) (Q : Int → iST → Prop) (x2 : Int) (x3 : Int) (x4 : Int) (u : iST) : Prop :=
  pv_7_isPair x4 (fun v1 u => 
  br (v1 = 0) (
    Q x2 u) (
    pv_7_left x4 (fun v2 u => 
    pv_7_lengthOf v2 (fun v3 u => 
    br (2 ≤ v3) (
      pv_7_left v2 (fun v4 u => 
      pv_8_hintsAsked_65 R12 Q x2 x3 x4 v2 v3 v4 u) u) (
      pv_8_hintsAsked_65 R12 Q x2 x3 x4 v2 v3 (-1) u)) u) u)) u
theorem cj_v_8_hintsAsked_12b {Q1 Q2 Q3 : Int → iST → Prop} {R121 R122 R123 : Int → Int → Int → iST → Prop} {x2 : Int} {x3 : Int} {x4 : Int} {u : iST} (hR12 : ∀ r0 r1 r2 r3, R121 r0 r1 r2 r3 → R122 r0 r1 r2 r3 → R123 r0 r1 r2 r3) (hQ : ∀ r0 r1, Q1 r0 r1 → Q2 r0 r1 → Q3 r0 r1) : v_8_hintsAsked_12b R121 Q1 x2 x3 x4 u → pv_8_hintsAsked_12b R122 Q2 x2 x3 x4 u → v_8_hintsAsked_12b R123 Q3 x2 x3 x4 u := (cj_v_7_isPair (fun _ _ => (br_cj (hQ _ _) (cj_v_7_left (fun _ _ => (cj_v_7_lengthOf (fun _ _ => (br_cj (cj_v_7_left (fun _ _ => (cj_v_8_hintsAsked_65 hR12 hQ))) (cj_v_8_hintsAsked_65 hR12 hQ)))))))))
theorem mn_v_8_hintsAsked_12b {Q1 Q2 : Int → iST → Prop} {R121 R122 : Int → Int → Int → iST → Prop} {x2 : Int} {x3 : Int} {x4 : Int} {u : iST} (hR12 : ∀ r0 r1 r2 r3, R121 r0 r1 r2 r3 → R122 r0 r1 r2 r3) (hQ : ∀ r0 r1, Q1 r0 r1 → Q2 r0 r1) : pv_8_hintsAsked_12b R121 Q1 x2 x3 x4 u → pv_8_hintsAsked_12b R122 Q2 x2 x3 x4 u := (mn_v_7_isPair (fun _ _ => (br_mn (hQ _ _) (mn_v_7_left (fun _ _ => (mn_v_7_lengthOf (fun _ _ => (br_mn (mn_v_7_left (fun _ _ => (mn_v_8_hintsAsked_65 hR12 hQ))) (mn_v_8_hintsAsked_65 hR12 hQ)))))))))
theorem wp_v_8_hintsAsked_12b {Q1 Q2 : Int → iST → Prop} {R121 R122 : Int → Int → Int → iST → Prop} {x2 : Int} {x3 : Int} {x4 : Int} {u : iST} (hR12 : ∀ r0 r1 r2 r3, R121 r0 r1 r2 r3 → R122 r0 r1 r2 r3) (hQ : ∀ r0 r1, Q1 r0 r1 → Q2 r0 r1) : v_8_hintsAsked_12b R121 Q1 x2 x3 x4 u → pv_8_hintsAsked_12b R122 Q2 x2 x3 x4 u := (wp_v_7_isPair (fun _ _ => (br_wp (hQ _ _) (wp_v_7_left (fun _ _ => (wp_v_7_lengthOf (fun _ _ => (br_wp (wp_v_7_left (fun _ _ => (wp_v_8_hintsAsked_65 hR12 hQ))) (wp_v_8_hintsAsked_65 hR12 hQ)))))))))
def pv_8_hintsAsked_12 (Q : Int → iST → Prop) (x2 : Int) (x3 : Int) (x4 : Int) (u : iST) : Prop := ∃ R12 : Int → Int → Int → iST → Prop, (∀ (x2 : Int) (x3 : Int) (x4 : Int) (u : iST), R12 x2 x3 x4 u → pv_8_hintsAsked_12b R12 Q x2 x3 x4 u) ∧ R12 x2 x3 x4 u
theorem cj_v_8_hintsAsked_12 {Q1 Q2 Q3 : Int → iST → Prop}  {x2 : Int} {x3 : Int} {x4 : Int} {u : iST} (hQ : ∀ r0 r1, Q1 r0 r1 → Q2 r0 r1 → Q3 r0 r1) : v_8_hintsAsked_12 Q1 x2 x3 x4 u → pv_8_hintsAsked_12 Q2 x2 x3 x4 u → v_8_hintsAsked_12 Q3 x2 x3 x4 u := by
  intro a b R3 c3
  obtain ⟨R2, c2, b2⟩ := b
  exact a (fun r0 r1 r2 r3 => R2 r0 r1 r2 r3 → R3 r0 r1 r2 r3) (fun r0 r1 r2 r3 a b => c3 r0 r1 r2 r3 (cj_v_8_hintsAsked_12b (fun r0 r1 r2 r3 a b => a b) hQ a (c2 r0 r1 r2 r3 b))) b2
theorem pv_8_hintsAsked_12_i  {Q : Int → iST → Prop} {x2 : Int} {x3 : Int} {x4 : Int} {u : iST} (I : Int → Int → Int → iST → Prop) (s : ∀ (x2 : Int) (x3 : Int) (x4 : Int) (u : iST), I x2 x3 x4 u → pv_8_hintsAsked_12b I Q x2 x3 x4 u) (h : I x2 x3 x4 u) : pv_8_hintsAsked_12 Q x2 x3 x4 u := ⟨I, s, h⟩
theorem mn_v_8_hintsAsked_12 {Q1 Q2 : Int → iST → Prop}  {x2 : Int} {x3 : Int} {x4 : Int} {u : iST} (hQ : ∀ r0 r1, Q1 r0 r1 → Q2 r0 r1) : pv_8_hintsAsked_12 Q1 x2 x3 x4 u → pv_8_hintsAsked_12 Q2 x2 x3 x4 u := fun ⟨R, s, h⟩ => ⟨R, fun r0 r1 r2 r3 a => mn_v_8_hintsAsked_12b (fun r0 r1 r2 r3 a => a) hQ (s r0 r1 r2 r3 a), h⟩
theorem un_v_8_hintsAsked_12  {Q : Int → iST → Prop} {x2 : Int} {x3 : Int} {x4 : Int} {u : iST} : pv_8_hintsAsked_12 Q x2 x3 x4 u → pv_8_hintsAsked_12b (fun x2 x3 x4 u => pv_8_hintsAsked_12 Q x2 x3 x4 u) Q x2 x3 x4 u := fun ⟨R, s, h⟩ => mn_v_8_hintsAsked_12b (fun r0 r1 r2 r3 a => ⟨R, s, a⟩) (fun _ _ h => h) (s _ _ _ _ h)
theorem fo_v_8_hintsAsked_12  {Q : Int → iST → Prop} {x2 : Int} {x3 : Int} {x4 : Int} {u : iST} : pv_8_hintsAsked_12b (fun x2 x3 x4 u => pv_8_hintsAsked_12 Q x2 x3 x4 u) Q x2 x3 x4 u → pv_8_hintsAsked_12 Q x2 x3 x4 u := fun h => ⟨fun x2 x3 x4 u => pv_8_hintsAsked_12b (fun x2 x3 x4 u => pv_8_hintsAsked_12 Q x2 x3 x4 u) Q x2 x3 x4 u, fun r0 r1 r2 r3 a => mn_v_8_hintsAsked_12b (fun r0 r1 r2 r3 a => un_v_8_hintsAsked_12 a) (fun _ _ h => h) a, h⟩
theorem wp_v_8_hintsAsked_12 {Q1 Q2 : Int → iST → Prop}  {x2 : Int} {x3 : Int} {x4 : Int} {u : iST} (hQ : ∀ r0 r1, Q1 r0 r1 → Q2 r0 r1) : v_8_hintsAsked_12 Q1 x2 x3 x4 u → pv_8_hintsAsked_12 Q2 x2 x3 x4 u := fun a => a (fun x2 x3 x4 u => pv_8_hintsAsked_12 Q2 x2 x3 x4 u) (fun x2 x3 x4 u b => fo_v_8_hintsAsked_12 (wp_v_8_hintsAsked_12b (fun r0 r1 r2 r3 a => a) hQ b))
def pv_8_hintsAsked (a0 : Int) (Q : Int → iST → Prop) (u : iST) : Prop :=
  sw (iI u 36 (-1)) (fun u => 
  pv_8_hintsAsked_12 Q 0 0 a0 u)
theorem cj_v_8_hintsAsked {Q1 Q2 Q3 : Int → iST → Prop}  {a0 : Int} {u : iST} (hQ : ∀ r0 r1, Q1 r0 r1 → Q2 r0 r1 → Q3 r0 r1) : v_8_hintsAsked a0 Q1 u → pv_8_hintsAsked a0 Q2 u → v_8_hintsAsked a0 Q3 u := (sw_cj fun _ => (cj_v_8_hintsAsked_12  hQ))
theorem mn_v_8_hintsAsked {Q1 Q2 : Int → iST → Prop}  {a0 : Int} {u : iST} (hQ : ∀ r0 r1, Q1 r0 r1 → Q2 r0 r1) : pv_8_hintsAsked a0 Q1 u → pv_8_hintsAsked a0 Q2 u := (sw_mn fun _ => (mn_v_8_hintsAsked_12  hQ))
theorem wp_v_8_hintsAsked {Q1 Q2 : Int → iST → Prop}  {a0 : Int} {u : iST} (hQ : ∀ r0 r1, Q1 r0 r1 → Q2 r0 r1) : v_8_hintsAsked a0 Q1 u → pv_8_hintsAsked a0 Q2 u := (sw_wp fun _ => (wp_v_8_hintsAsked_12  hQ))
def pv_10_hasVariablesOf_99 (R9 : Int → Int → Int → iST → Prop) (Q : Int → iST → Prop) (x2 : Int) (x3 : Int) (x4 : Int) (x5 : Int) (u : iST) : Prop :=
  br (x5 ≠ 0) (
    ovp (x4 + 1) (
    R9 x2 x3 (x4 + 1) u)) (
    ztp 0 (Q 0 u))
theorem cj_v_10_hasVariablesOf_99 {Q1 Q2 Q3 : Int → iST → Prop} {R91 R92 R93 : Int → Int → Int → iST → Prop} {x2 : Int} {x3 : Int} {x4 : Int} {x5 : Int} {u : iST} (hR9 : ∀ r0 r1 r2 r3, R91 r0 r1 r2 r3 → R92 r0 r1 r2 r3 → R93 r0 r1 r2 r3) (hQ : ∀ r0 r1, Q1 r0 r1 → Q2 r0 r1 → Q3 r0 r1) : v_10_hasVariablesOf_99 R91 Q1 x2 x3 x4 x5 u → pv_10_hasVariablesOf_99 R92 Q2 x2 x3 x4 x5 u → v_10_hasVariablesOf_99 R93 Q3 x2 x3 x4 x5 u := (br_cj (ov_cj (hR9 _ _ _ _)) (zt_cj (hQ _ _)))
theorem mn_v_10_hasVariablesOf_99 {Q1 Q2 : Int → iST → Prop} {R91 R92 : Int → Int → Int → iST → Prop} {x2 : Int} {x3 : Int} {x4 : Int} {x5 : Int} {u : iST} (hR9 : ∀ r0 r1 r2 r3, R91 r0 r1 r2 r3 → R92 r0 r1 r2 r3) (hQ : ∀ r0 r1, Q1 r0 r1 → Q2 r0 r1) : pv_10_hasVariablesOf_99 R91 Q1 x2 x3 x4 x5 u → pv_10_hasVariablesOf_99 R92 Q2 x2 x3 x4 x5 u := (br_mn (ov_mn (hR9 _ _ _ _)) (zt_mn (hQ _ _)))
theorem wp_v_10_hasVariablesOf_99 {Q1 Q2 : Int → iST → Prop} {R91 R92 : Int → Int → Int → iST → Prop} {x2 : Int} {x3 : Int} {x4 : Int} {x5 : Int} {u : iST} (hR9 : ∀ r0 r1 r2 r3, R91 r0 r1 r2 r3 → R92 r0 r1 r2 r3) (hQ : ∀ r0 r1, Q1 r0 r1 → Q2 r0 r1) : v_10_hasVariablesOf_99 R91 Q1 x2 x3 x4 x5 u → pv_10_hasVariablesOf_99 R92 Q2 x2 x3 x4 x5 u := (br_wp (ov_wp (hR9 _ _ _ _)) (zt_wp (hQ _ _)))
def pv_10_hasVariablesOf_83 (R9 : Int → Int → Int → iST → Prop) (R42 : Int → Int → Int → Int → Int → iST → Prop) (Q : Int → iST → Prop) (x2 : Int) (x3 : Int) (x4 : Int) (x6 : Int) (y0 : Int) (u : iST) : Prop :=
  pv_7_right x6 (fun v8 u => 
  R42 x2 x3 x4 y0 v8 u) u
theorem cj_v_10_hasVariablesOf_83 {Q1 Q2 Q3 : Int → iST → Prop} {R91 R92 R93 : Int → Int → Int → iST → Prop} {R421 R422 R423 : Int → Int → Int → Int → Int → iST → Prop} {x2 : Int} {x3 : Int} {x4 : Int} {x6 : Int} {y0 : Int} {u : iST} (hR9 : ∀ r0 r1 r2 r3, R91 r0 r1 r2 r3 → R92 r0 r1 r2 r3 → R93 r0 r1 r2 r3) (hR42 : ∀ r0 r1 r2 r3 r4 r5, R421 r0 r1 r2 r3 r4 r5 → R422 r0 r1 r2 r3 r4 r5 → R423 r0 r1 r2 r3 r4 r5) (hQ : ∀ r0 r1, Q1 r0 r1 → Q2 r0 r1 → Q3 r0 r1) : v_10_hasVariablesOf_83 R91 R421 Q1 x2 x3 x4 x6 y0 u → pv_10_hasVariablesOf_83 R92 R422 Q2 x2 x3 x4 x6 y0 u → v_10_hasVariablesOf_83 R93 R423 Q3 x2 x3 x4 x6 y0 u := (cj_v_7_right (fun _ _ => (hR42 _ _ _ _ _ _)))
theorem mn_v_10_hasVariablesOf_83 {Q1 Q2 : Int → iST → Prop} {R91 R92 : Int → Int → Int → iST → Prop} {R421 R422 : Int → Int → Int → Int → Int → iST → Prop} {x2 : Int} {x3 : Int} {x4 : Int} {x6 : Int} {y0 : Int} {u : iST} (hR9 : ∀ r0 r1 r2 r3, R91 r0 r1 r2 r3 → R92 r0 r1 r2 r3) (hR42 : ∀ r0 r1 r2 r3 r4 r5, R421 r0 r1 r2 r3 r4 r5 → R422 r0 r1 r2 r3 r4 r5) (hQ : ∀ r0 r1, Q1 r0 r1 → Q2 r0 r1) : pv_10_hasVariablesOf_83 R91 R421 Q1 x2 x3 x4 x6 y0 u → pv_10_hasVariablesOf_83 R92 R422 Q2 x2 x3 x4 x6 y0 u := (mn_v_7_right (fun _ _ => (hR42 _ _ _ _ _ _)))
theorem wp_v_10_hasVariablesOf_83 {Q1 Q2 : Int → iST → Prop} {R91 R92 : Int → Int → Int → iST → Prop} {R421 R422 : Int → Int → Int → Int → Int → iST → Prop} {x2 : Int} {x3 : Int} {x4 : Int} {x6 : Int} {y0 : Int} {u : iST} (hR9 : ∀ r0 r1 r2 r3, R91 r0 r1 r2 r3 → R92 r0 r1 r2 r3) (hR42 : ∀ r0 r1 r2 r3 r4 r5, R421 r0 r1 r2 r3 r4 r5 → R422 r0 r1 r2 r3 r4 r5) (hQ : ∀ r0 r1, Q1 r0 r1 → Q2 r0 r1) : v_10_hasVariablesOf_83 R91 R421 Q1 x2 x3 x4 x6 y0 u → pv_10_hasVariablesOf_83 R92 R422 Q2 x2 x3 x4 x6 y0 u := (wp_v_7_right (fun _ _ => (hR42 _ _ _ _ _ _)))
def pv_10_hasVariablesOf_42b (R9 : Int → Int → Int → iST → Prop) (R42 : Int → Int → Int → Int → Int → iST → Prop) (Q : Int → iST → Prop) (x2 : Int) (x3 : Int) (x4 : Int) (x5 : Int) (x6 : Int) (u : iST) : Prop :=
  pv_7_isPair x6 (fun v4 u => 
  br (v4 = 0) (
    pv_10_hasVariablesOf_99 R9 Q x2 x3 x4 x5 u) (
    br (x5 ≠ 0) (
      pv_10_hasVariablesOf_99 R9 Q x2 x3 x4 x5 u) (
      pv_7_left x6 (fun v6 u => 
      bdp x4 128 (rd (u.2.1 43 x4) (fun v7 => 
      br (v6 ≠ v7) (
        pv_10_hasVariablesOf_83 R9 R42 Q x2 x3 x4 x6 0 u) (
        pv_10_hasVariablesOf_83 R9 R42 Q x2 x3 x4 x6 1 u)))) u))) u
theorem cj_v_10_hasVariablesOf_42b {Q1 Q2 Q3 : Int → iST → Prop} {R91 R92 R93 : Int → Int → Int → iST → Prop} {R421 R422 R423 : Int → Int → Int → Int → Int → iST → Prop} {x2 : Int} {x3 : Int} {x4 : Int} {x5 : Int} {x6 : Int} {u : iST} (hR9 : ∀ r0 r1 r2 r3, R91 r0 r1 r2 r3 → R92 r0 r1 r2 r3 → R93 r0 r1 r2 r3) (hR42 : ∀ r0 r1 r2 r3 r4 r5, R421 r0 r1 r2 r3 r4 r5 → R422 r0 r1 r2 r3 r4 r5 → R423 r0 r1 r2 r3 r4 r5) (hQ : ∀ r0 r1, Q1 r0 r1 → Q2 r0 r1 → Q3 r0 r1) : v_10_hasVariablesOf_42b R91 R421 Q1 x2 x3 x4 x5 x6 u → pv_10_hasVariablesOf_42b R92 R422 Q2 x2 x3 x4 x5 x6 u → v_10_hasVariablesOf_42b R93 R423 Q3 x2 x3 x4 x5 x6 u := (cj_v_7_isPair (fun _ _ => (br_cj (cj_v_10_hasVariablesOf_99 hR9 hQ) (br_cj (cj_v_10_hasVariablesOf_99 hR9 hQ) (cj_v_7_left (fun _ _ => (bd_cj (rd_cj fun _ => (br_cj (cj_v_10_hasVariablesOf_83 hR9 hR42 hQ) (cj_v_10_hasVariablesOf_83 hR9 hR42 hQ))))))))))
theorem mn_v_10_hasVariablesOf_42b {Q1 Q2 : Int → iST → Prop} {R91 R92 : Int → Int → Int → iST → Prop} {R421 R422 : Int → Int → Int → Int → Int → iST → Prop} {x2 : Int} {x3 : Int} {x4 : Int} {x5 : Int} {x6 : Int} {u : iST} (hR9 : ∀ r0 r1 r2 r3, R91 r0 r1 r2 r3 → R92 r0 r1 r2 r3) (hR42 : ∀ r0 r1 r2 r3 r4 r5, R421 r0 r1 r2 r3 r4 r5 → R422 r0 r1 r2 r3 r4 r5) (hQ : ∀ r0 r1, Q1 r0 r1 → Q2 r0 r1) : pv_10_hasVariablesOf_42b R91 R421 Q1 x2 x3 x4 x5 x6 u → pv_10_hasVariablesOf_42b R92 R422 Q2 x2 x3 x4 x5 x6 u := (mn_v_7_isPair (fun _ _ => (br_mn (mn_v_10_hasVariablesOf_99 hR9 hQ) (br_mn (mn_v_10_hasVariablesOf_99 hR9 hQ) (mn_v_7_left (fun _ _ => (bd_mn (rd_mn fun _ => (br_mn (mn_v_10_hasVariablesOf_83 hR9 hR42 hQ) (mn_v_10_hasVariablesOf_83 hR9 hR42 hQ))))))))))
theorem wp_v_10_hasVariablesOf_42b {Q1 Q2 : Int → iST → Prop} {R91 R92 : Int → Int → Int → iST → Prop} {R421 R422 : Int → Int → Int → Int → Int → iST → Prop} {x2 : Int} {x3 : Int} {x4 : Int} {x5 : Int} {x6 : Int} {u : iST} (hR9 : ∀ r0 r1 r2 r3, R91 r0 r1 r2 r3 → R92 r0 r1 r2 r3) (hR42 : ∀ r0 r1 r2 r3 r4 r5, R421 r0 r1 r2 r3 r4 r5 → R422 r0 r1 r2 r3 r4 r5) (hQ : ∀ r0 r1, Q1 r0 r1 → Q2 r0 r1) : v_10_hasVariablesOf_42b R91 R421 Q1 x2 x3 x4 x5 x6 u → pv_10_hasVariablesOf_42b R92 R422 Q2 x2 x3 x4 x5 x6 u := (wp_v_7_isPair (fun _ _ => (br_wp (wp_v_10_hasVariablesOf_99 hR9 hQ) (br_wp (wp_v_10_hasVariablesOf_99 hR9 hQ) (wp_v_7_left (fun _ _ => (bd_wp (rd_wp fun _ => (br_wp (wp_v_10_hasVariablesOf_83 hR9 hR42 hQ) (wp_v_10_hasVariablesOf_83 hR9 hR42 hQ))))))))))
def pv_10_hasVariablesOf_42 (R9 : Int → Int → Int → iST → Prop) (Q : Int → iST → Prop) (x2 : Int) (x3 : Int) (x4 : Int) (x5 : Int) (x6 : Int) (u : iST) : Prop := ∃ R42 : Int → Int → Int → Int → Int → iST → Prop, (∀ (x2 : Int) (x3 : Int) (x4 : Int) (x5 : Int) (x6 : Int) (u : iST), R42 x2 x3 x4 x5 x6 u → pv_10_hasVariablesOf_42b R9 R42 Q x2 x3 x4 x5 x6 u) ∧ R42 x2 x3 x4 x5 x6 u
theorem cj_v_10_hasVariablesOf_42 {Q1 Q2 Q3 : Int → iST → Prop} {R91 R92 R93 : Int → Int → Int → iST → Prop} {x2 : Int} {x3 : Int} {x4 : Int} {x5 : Int} {x6 : Int} {u : iST} (hR9 : ∀ r0 r1 r2 r3, R91 r0 r1 r2 r3 → R92 r0 r1 r2 r3 → R93 r0 r1 r2 r3) (hQ : ∀ r0 r1, Q1 r0 r1 → Q2 r0 r1 → Q3 r0 r1) : v_10_hasVariablesOf_42 R91 Q1 x2 x3 x4 x5 x6 u → pv_10_hasVariablesOf_42 R92 Q2 x2 x3 x4 x5 x6 u → v_10_hasVariablesOf_42 R93 Q3 x2 x3 x4 x5 x6 u := by
  intro a b R3 c3
  obtain ⟨R2, c2, b2⟩ := b
  exact a (fun r0 r1 r2 r3 r4 r5 => R2 r0 r1 r2 r3 r4 r5 → R3 r0 r1 r2 r3 r4 r5) (fun r0 r1 r2 r3 r4 r5 a b => c3 r0 r1 r2 r3 r4 r5 (cj_v_10_hasVariablesOf_42b hR9 (fun r0 r1 r2 r3 r4 r5 a b => a b) hQ a (c2 r0 r1 r2 r3 r4 r5 b))) b2
theorem pv_10_hasVariablesOf_42_i {R9 : Int → Int → Int → iST → Prop} {Q : Int → iST → Prop} {x2 : Int} {x3 : Int} {x4 : Int} {x5 : Int} {x6 : Int} {u : iST} (I : Int → Int → Int → Int → Int → iST → Prop) (s : ∀ (x2 : Int) (x3 : Int) (x4 : Int) (x5 : Int) (x6 : Int) (u : iST), I x2 x3 x4 x5 x6 u → pv_10_hasVariablesOf_42b R9 I Q x2 x3 x4 x5 x6 u) (h : I x2 x3 x4 x5 x6 u) : pv_10_hasVariablesOf_42 R9 Q x2 x3 x4 x5 x6 u := ⟨I, s, h⟩
theorem mn_v_10_hasVariablesOf_42 {Q1 Q2 : Int → iST → Prop} {R91 R92 : Int → Int → Int → iST → Prop} {x2 : Int} {x3 : Int} {x4 : Int} {x5 : Int} {x6 : Int} {u : iST} (hR9 : ∀ r0 r1 r2 r3, R91 r0 r1 r2 r3 → R92 r0 r1 r2 r3) (hQ : ∀ r0 r1, Q1 r0 r1 → Q2 r0 r1) : pv_10_hasVariablesOf_42 R91 Q1 x2 x3 x4 x5 x6 u → pv_10_hasVariablesOf_42 R92 Q2 x2 x3 x4 x5 x6 u := fun ⟨R, s, h⟩ => ⟨R, fun r0 r1 r2 r3 r4 r5 a => mn_v_10_hasVariablesOf_42b hR9 (fun r0 r1 r2 r3 r4 r5 a => a) hQ (s r0 r1 r2 r3 r4 r5 a), h⟩
theorem un_v_10_hasVariablesOf_42 {R9 : Int → Int → Int → iST → Prop} {Q : Int → iST → Prop} {x2 : Int} {x3 : Int} {x4 : Int} {x5 : Int} {x6 : Int} {u : iST} : pv_10_hasVariablesOf_42 R9 Q x2 x3 x4 x5 x6 u → pv_10_hasVariablesOf_42b R9 (fun x2 x3 x4 x5 x6 u => pv_10_hasVariablesOf_42 R9 Q x2 x3 x4 x5 x6 u) Q x2 x3 x4 x5 x6 u := fun ⟨R, s, h⟩ => mn_v_10_hasVariablesOf_42b (fun _ _ _ _ h => h) (fun r0 r1 r2 r3 r4 r5 a => ⟨R, s, a⟩) (fun _ _ h => h) (s _ _ _ _ _ _ h)
theorem fo_v_10_hasVariablesOf_42 {R9 : Int → Int → Int → iST → Prop} {Q : Int → iST → Prop} {x2 : Int} {x3 : Int} {x4 : Int} {x5 : Int} {x6 : Int} {u : iST} : pv_10_hasVariablesOf_42b R9 (fun x2 x3 x4 x5 x6 u => pv_10_hasVariablesOf_42 R9 Q x2 x3 x4 x5 x6 u) Q x2 x3 x4 x5 x6 u → pv_10_hasVariablesOf_42 R9 Q x2 x3 x4 x5 x6 u := fun h => ⟨fun x2 x3 x4 x5 x6 u => pv_10_hasVariablesOf_42b R9 (fun x2 x3 x4 x5 x6 u => pv_10_hasVariablesOf_42 R9 Q x2 x3 x4 x5 x6 u) Q x2 x3 x4 x5 x6 u, fun r0 r1 r2 r3 r4 r5 a => mn_v_10_hasVariablesOf_42b (fun _ _ _ _ h => h) (fun r0 r1 r2 r3 r4 r5 a => un_v_10_hasVariablesOf_42 a) (fun _ _ h => h) a, h⟩
theorem wp_v_10_hasVariablesOf_42 {Q1 Q2 : Int → iST → Prop} {R91 R92 : Int → Int → Int → iST → Prop} {x2 : Int} {x3 : Int} {x4 : Int} {x5 : Int} {x6 : Int} {u : iST} (hR9 : ∀ r0 r1 r2 r3, R91 r0 r1 r2 r3 → R92 r0 r1 r2 r3) (hQ : ∀ r0 r1, Q1 r0 r1 → Q2 r0 r1) : v_10_hasVariablesOf_42 R91 Q1 x2 x3 x4 x5 x6 u → pv_10_hasVariablesOf_42 R92 Q2 x2 x3 x4 x5 x6 u := fun a => a (fun x2 x3 x4 x5 x6 u => pv_10_hasVariablesOf_42 R92 Q2 x2 x3 x4 x5 x6 u) (fun x2 x3 x4 x5 x6 u b => fo_v_10_hasVariablesOf_42 (wp_v_10_hasVariablesOf_42b hR9 (fun r0 r1 r2 r3 r4 r5 a => a) hQ b))
def pv_10_hasVariablesOf_37 (R9 : Int → Int → Int → iST → Prop) (Q : Int → iST → Prop) (x2 : Int) (x3 : Int) (x4 : Int) (y0 : Int) (u : iST) : Prop :=
  pv_10_hasVariablesOf_42 R9 Q x2 x3 x4 y0 x2 u
theorem cj_v_10_hasVariablesOf_37 {Q1 Q2 Q3 : Int → iST → Prop} {R91 R92 R93 : Int → Int → Int → iST → Prop} {x2 : Int} {x3 : Int} {x4 : Int} {y0 : Int} {u : iST} (hR9 : ∀ r0 r1 r2 r3, R91 r0 r1 r2 r3 → R92 r0 r1 r2 r3 → R93 r0 r1 r2 r3) (hQ : ∀ r0 r1, Q1 r0 r1 → Q2 r0 r1 → Q3 r0 r1) : v_10_hasVariablesOf_37 R91 Q1 x2 x3 x4 y0 u → pv_10_hasVariablesOf_37 R92 Q2 x2 x3 x4 y0 u → v_10_hasVariablesOf_37 R93 Q3 x2 x3 x4 y0 u := (cj_v_10_hasVariablesOf_42 hR9 hQ)
theorem mn_v_10_hasVariablesOf_37 {Q1 Q2 : Int → iST → Prop} {R91 R92 : Int → Int → Int → iST → Prop} {x2 : Int} {x3 : Int} {x4 : Int} {y0 : Int} {u : iST} (hR9 : ∀ r0 r1 r2 r3, R91 r0 r1 r2 r3 → R92 r0 r1 r2 r3) (hQ : ∀ r0 r1, Q1 r0 r1 → Q2 r0 r1) : pv_10_hasVariablesOf_37 R91 Q1 x2 x3 x4 y0 u → pv_10_hasVariablesOf_37 R92 Q2 x2 x3 x4 y0 u := (mn_v_10_hasVariablesOf_42 hR9 hQ)
theorem wp_v_10_hasVariablesOf_37 {Q1 Q2 : Int → iST → Prop} {R91 R92 : Int → Int → Int → iST → Prop} {x2 : Int} {x3 : Int} {x4 : Int} {y0 : Int} {u : iST} (hR9 : ∀ r0 r1 r2 r3, R91 r0 r1 r2 r3 → R92 r0 r1 r2 r3) (hQ : ∀ r0 r1, Q1 r0 r1 → Q2 r0 r1) : v_10_hasVariablesOf_37 R91 Q1 x2 x3 x4 y0 u → pv_10_hasVariablesOf_37 R92 Q2 x2 x3 x4 y0 u := (wp_v_10_hasVariablesOf_42 hR9 hQ)
def pv_10_hasVariablesOf_9b (R9 : Int → Int → Int → iST → Prop) (Q : Int → iST → Prop) (x2 : Int) (x3 : Int) (x4 : Int) (u : iST) : Prop :=
  br (x3 ≤ x4) (
    ztp 1 (Q 1 u)) (
    bdp x4 128 (rd (u.2.1 43 x4) (fun v2 => 
    pv_7_isVariable v2 (fun v3 u => 
    br (v3 ≠ 0) (
      pv_10_hasVariablesOf_37 R9 Q x2 x3 x4 0 u) (
      pv_10_hasVariablesOf_37 R9 Q x2 x3 x4 1 u)) u)))
theorem cj_v_10_hasVariablesOf_9b {Q1 Q2 Q3 : Int → iST → Prop} {R91 R92 R93 : Int → Int → Int → iST → Prop} {x2 : Int} {x3 : Int} {x4 : Int} {u : iST} (hR9 : ∀ r0 r1 r2 r3, R91 r0 r1 r2 r3 → R92 r0 r1 r2 r3 → R93 r0 r1 r2 r3) (hQ : ∀ r0 r1, Q1 r0 r1 → Q2 r0 r1 → Q3 r0 r1) : v_10_hasVariablesOf_9b R91 Q1 x2 x3 x4 u → pv_10_hasVariablesOf_9b R92 Q2 x2 x3 x4 u → v_10_hasVariablesOf_9b R93 Q3 x2 x3 x4 u := (br_cj (zt_cj (hQ _ _)) (bd_cj (rd_cj fun _ => (cj_v_7_isVariable (fun _ _ => (br_cj (cj_v_10_hasVariablesOf_37 hR9 hQ) (cj_v_10_hasVariablesOf_37 hR9 hQ)))))))
theorem mn_v_10_hasVariablesOf_9b {Q1 Q2 : Int → iST → Prop} {R91 R92 : Int → Int → Int → iST → Prop} {x2 : Int} {x3 : Int} {x4 : Int} {u : iST} (hR9 : ∀ r0 r1 r2 r3, R91 r0 r1 r2 r3 → R92 r0 r1 r2 r3) (hQ : ∀ r0 r1, Q1 r0 r1 → Q2 r0 r1) : pv_10_hasVariablesOf_9b R91 Q1 x2 x3 x4 u → pv_10_hasVariablesOf_9b R92 Q2 x2 x3 x4 u := (br_mn (zt_mn (hQ _ _)) (bd_mn (rd_mn fun _ => (mn_v_7_isVariable (fun _ _ => (br_mn (mn_v_10_hasVariablesOf_37 hR9 hQ) (mn_v_10_hasVariablesOf_37 hR9 hQ)))))))
theorem wp_v_10_hasVariablesOf_9b {Q1 Q2 : Int → iST → Prop} {R91 R92 : Int → Int → Int → iST → Prop} {x2 : Int} {x3 : Int} {x4 : Int} {u : iST} (hR9 : ∀ r0 r1 r2 r3, R91 r0 r1 r2 r3 → R92 r0 r1 r2 r3) (hQ : ∀ r0 r1, Q1 r0 r1 → Q2 r0 r1) : v_10_hasVariablesOf_9b R91 Q1 x2 x3 x4 u → pv_10_hasVariablesOf_9b R92 Q2 x2 x3 x4 u := (br_wp (zt_wp (hQ _ _)) (bd_wp (rd_wp fun _ => (wp_v_7_isVariable (fun _ _ => (br_wp (wp_v_10_hasVariablesOf_37 hR9 hQ) (wp_v_10_hasVariablesOf_37 hR9 hQ)))))))
def pv_10_hasVariablesOf_9 (Q : Int → iST → Prop) (x2 : Int) (x3 : Int) (x4 : Int) (u : iST) : Prop := ∃ R9 : Int → Int → Int → iST → Prop, (∀ (x2 : Int) (x3 : Int) (x4 : Int) (u : iST), R9 x2 x3 x4 u → pv_10_hasVariablesOf_9b R9 Q x2 x3 x4 u) ∧ R9 x2 x3 x4 u
theorem cj_v_10_hasVariablesOf_9 {Q1 Q2 Q3 : Int → iST → Prop}  {x2 : Int} {x3 : Int} {x4 : Int} {u : iST} (hQ : ∀ r0 r1, Q1 r0 r1 → Q2 r0 r1 → Q3 r0 r1) : v_10_hasVariablesOf_9 Q1 x2 x3 x4 u → pv_10_hasVariablesOf_9 Q2 x2 x3 x4 u → v_10_hasVariablesOf_9 Q3 x2 x3 x4 u := by
  intro a b R3 c3
  obtain ⟨R2, c2, b2⟩ := b
  exact a (fun r0 r1 r2 r3 => R2 r0 r1 r2 r3 → R3 r0 r1 r2 r3) (fun r0 r1 r2 r3 a b => c3 r0 r1 r2 r3 (cj_v_10_hasVariablesOf_9b (fun r0 r1 r2 r3 a b => a b) hQ a (c2 r0 r1 r2 r3 b))) b2
theorem pv_10_hasVariablesOf_9_i  {Q : Int → iST → Prop} {x2 : Int} {x3 : Int} {x4 : Int} {u : iST} (I : Int → Int → Int → iST → Prop) (s : ∀ (x2 : Int) (x3 : Int) (x4 : Int) (u : iST), I x2 x3 x4 u → pv_10_hasVariablesOf_9b I Q x2 x3 x4 u) (h : I x2 x3 x4 u) : pv_10_hasVariablesOf_9 Q x2 x3 x4 u := ⟨I, s, h⟩
theorem mn_v_10_hasVariablesOf_9 {Q1 Q2 : Int → iST → Prop}  {x2 : Int} {x3 : Int} {x4 : Int} {u : iST} (hQ : ∀ r0 r1, Q1 r0 r1 → Q2 r0 r1) : pv_10_hasVariablesOf_9 Q1 x2 x3 x4 u → pv_10_hasVariablesOf_9 Q2 x2 x3 x4 u := fun ⟨R, s, h⟩ => ⟨R, fun r0 r1 r2 r3 a => mn_v_10_hasVariablesOf_9b (fun r0 r1 r2 r3 a => a) hQ (s r0 r1 r2 r3 a), h⟩
theorem un_v_10_hasVariablesOf_9  {Q : Int → iST → Prop} {x2 : Int} {x3 : Int} {x4 : Int} {u : iST} : pv_10_hasVariablesOf_9 Q x2 x3 x4 u → pv_10_hasVariablesOf_9b (fun x2 x3 x4 u => pv_10_hasVariablesOf_9 Q x2 x3 x4 u) Q x2 x3 x4 u := fun ⟨R, s, h⟩ => mn_v_10_hasVariablesOf_9b (fun r0 r1 r2 r3 a => ⟨R, s, a⟩) (fun _ _ h => h) (s _ _ _ _ h)
theorem fo_v_10_hasVariablesOf_9  {Q : Int → iST → Prop} {x2 : Int} {x3 : Int} {x4 : Int} {u : iST} : pv_10_hasVariablesOf_9b (fun x2 x3 x4 u => pv_10_hasVariablesOf_9 Q x2 x3 x4 u) Q x2 x3 x4 u → pv_10_hasVariablesOf_9 Q x2 x3 x4 u := fun h => ⟨fun x2 x3 x4 u => pv_10_hasVariablesOf_9b (fun x2 x3 x4 u => pv_10_hasVariablesOf_9 Q x2 x3 x4 u) Q x2 x3 x4 u, fun r0 r1 r2 r3 a => mn_v_10_hasVariablesOf_9b (fun r0 r1 r2 r3 a => un_v_10_hasVariablesOf_9 a) (fun _ _ h => h) a, h⟩
theorem wp_v_10_hasVariablesOf_9 {Q1 Q2 : Int → iST → Prop}  {x2 : Int} {x3 : Int} {x4 : Int} {u : iST} (hQ : ∀ r0 r1, Q1 r0 r1 → Q2 r0 r1) : v_10_hasVariablesOf_9 Q1 x2 x3 x4 u → pv_10_hasVariablesOf_9 Q2 x2 x3 x4 u := fun a => a (fun x2 x3 x4 u => pv_10_hasVariablesOf_9 Q2 x2 x3 x4 u) (fun x2 x3 x4 u b => fo_v_10_hasVariablesOf_9 (wp_v_10_hasVariablesOf_9b (fun r0 r1 r2 r3 a => a) hQ b))
