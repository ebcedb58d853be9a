def pv_5_atomCell_113 (R15 : Int → Int → Int → Int → Int → Int → Int → iST → Prop) (Q : Int → iST → Prop) (x2 : Int) (x3 : Int) (x6 : Int) (x8 : Int) (x9 : Int) (x10 : Int) (x11 : Int) (y0 : Int) (u : iST) : Prop :=
  pv_5_atomCell_115 R15 Q x2 x3 y0 x6 x8 x9 x10 x11 u
theorem cj_v_5_atomCell_113 {Q1 Q2 Q3 : Int → iST → Prop} {R151 R152 R153 : Int → Int → Int → Int → Int → Int → Int → iST → Prop} {x2 : Int} {x3 : Int} {x6 : Int} {x8 : Int} {x9 : Int} {x10 : Int} {x11 : Int} {y0 : Int} {u : iST} (hR15 : ∀ r0 r1 r2 r3 r4 r5 r6 r7, R151 r0 r1 r2 r3 r4 r5 r6 r7 → R152 r0 r1 r2 r3 r4 r5 r6 r7 → R153 r0 r1 r2 r3 r4 r5 r6 r7) (hQ : ∀ r0 r1, Q1 r0 r1 → Q2 r0 r1 → Q3 r0 r1) : v_5_atomCell_113 R151 Q1 x2 x3 x6 x8 x9 x10 x11 y0 u → pv_5_atomCell_113 R152 Q2 x2 x3 x6 x8 x9 x10 x11 y0 u → v_5_atomCell_113 R153 Q3 x2 x3 x6 x8 x9 x10 x11 y0 u := (cj_v_5_atomCell_115 hR15 hQ)
theorem mn_v_5_atomCell_113 {Q1 Q2 : Int → iST → Prop} {R151 R152 : Int → Int → Int → Int → Int → Int → Int → iST → Prop} {x2 : Int} {x3 : Int} {x6 : Int} {x8 : Int} {x9 : Int} {x10 : Int} {x11 : Int} {y0 : Int} {u : iST} (hR15 : ∀ r0 r1 r2 r3 r4 r5 r6 r7, R151 r0 r1 r2 r3 r4 r5 r6 r7 → R152 r0 r1 r2 r3 r4 r5 r6 r7) (hQ : ∀ r0 r1, Q1 r0 r1 → Q2 r0 r1) : pv_5_atomCell_113 R151 Q1 x2 x3 x6 x8 x9 x10 x11 y0 u → pv_5_atomCell_113 R152 Q2 x2 x3 x6 x8 x9 x10 x11 y0 u := (mn_v_5_atomCell_115 hR15 hQ)
theorem wp_v_5_atomCell_113 {Q1 Q2 : Int → iST → Prop} {R151 R152 : Int → Int → Int → Int → Int → Int → Int → iST → Prop} {x2 : Int} {x3 : Int} {x6 : Int} {x8 : Int} {x9 : Int} {x10 : Int} {x11 : Int} {y0 : Int} {u : iST} (hR15 : ∀ r0 r1 r2 r3 r4 r5 r6 r7, R151 r0 r1 r2 r3 r4 r5 r6 r7 → R152 r0 r1 r2 r3 r4 r5 r6 r7) (hQ : ∀ r0 r1, Q1 r0 r1 → Q2 r0 r1) : v_5_atomCell_113 R151 Q1 x2 x3 x6 x8 x9 x10 x11 y0 u → pv_5_atomCell_113 R152 Q2 x2 x3 x6 x8 x9 x10 x11 y0 u := (wp_v_5_atomCell_115 hR15 hQ)
def pv_5_atomCell_92 (R15 : Int → Int → Int → Int → Int → Int → Int → iST → Prop) (Q : Int → iST → Prop) (x2 : Int) (x3 : Int) (x4 : Int) (x6 : Int) (x8 : Int) (x10 : Int) (x11 : Int) (x12 : Int) (y0 : Int) (u : iST) : Prop :=
  br (y0 = 0) (
    rl (wlmul x4 10) (fun v10 => 
    rl (wladd v10 x12) (fun v12 => 
    pv_5_atomCell_113 R15 Q x2 x3 x6 x8 y0 x10 x11 v12 u))) (
    pv_5_atomCell_113 R15 Q x2 x3 x6 x8 y0 x10 x11 0 u)
theorem cj_v_5_atomCell_92 {Q1 Q2 Q3 : Int → iST → Prop} {R151 R152 R153 : Int → Int → Int → Int → Int → Int → Int → iST → Prop} {x2 : Int} {x3 : Int} {x4 : Int} {x6 : Int} {x8 : Int} {x10 : Int} {x11 : Int} {x12 : Int} {y0 : Int} {u : iST} (hR15 : ∀ r0 r1 r2 r3 r4 r5 r6 r7, R151 r0 r1 r2 r3 r4 r5 r6 r7 → R152 r0 r1 r2 r3 r4 r5 r6 r7 → R153 r0 r1 r2 r3 r4 r5 r6 r7) (hQ : ∀ r0 r1, Q1 r0 r1 → Q2 r0 r1 → Q3 r0 r1) : v_5_atomCell_92 R151 Q1 x2 x3 x4 x6 x8 x10 x11 x12 y0 u → pv_5_atomCell_92 R152 Q2 x2 x3 x4 x6 x8 x10 x11 x12 y0 u → v_5_atomCell_92 R153 Q3 x2 x3 x4 x6 x8 x10 x11 x12 y0 u := (br_cj (rl_cj fun _ => (rl_cj fun _ => (cj_v_5_atomCell_113 hR15 hQ))) (cj_v_5_atomCell_113 hR15 hQ))
theorem mn_v_5_atomCell_92 {Q1 Q2 : Int → iST → Prop} {R151 R152 : Int → Int → Int → Int → Int → Int → Int → iST → Prop} {x2 : Int} {x3 : Int} {x4 : Int} {x6 : Int} {x8 : Int} {x10 : Int} {x11 : Int} {x12 : Int} {y0 : Int} {u : iST} (hR15 : ∀ r0 r1 r2 r3 r4 r5 r6 r7, R151 r0 r1 r2 r3 r4 r5 r6 r7 → R152 r0 r1 r2 r3 r4 r5 r6 r7) (hQ : ∀ r0 r1, Q1 r0 r1 → Q2 r0 r1) : pv_5_atomCell_92 R151 Q1 x2 x3 x4 x6 x8 x10 x11 x12 y0 u → pv_5_atomCell_92 R152 Q2 x2 x3 x4 x6 x8 x10 x11 x12 y0 u := (br_mn (rl_mn fun _ => (rl_mn fun _ => (mn_v_5_atomCell_113 hR15 hQ))) (mn_v_5_atomCell_113 hR15 hQ))
theorem wp_v_5_atomCell_92 {Q1 Q2 : Int → iST → Prop} {R151 R152 : Int → Int → Int → Int → Int → Int → Int → iST → Prop} {x2 : Int} {x3 : Int} {x4 : Int} {x6 : Int} {x8 : Int} {x10 : Int} {x11 : Int} {x12 : Int} {y0 : Int} {u : iST} (hR15 : ∀ r0 r1 r2 r3 r4 r5 r6 r7, R151 r0 r1 r2 r3 r4 r5 r6 r7 → R152 r0 r1 r2 r3 r4 r5 r6 r7) (hQ : ∀ r0 r1, Q1 r0 r1 → Q2 r0 r1) : v_5_atomCell_92 R151 Q1 x2 x3 x4 x6 x8 x10 x11 x12 y0 u → pv_5_atomCell_92 R152 Q2 x2 x3 x4 x6 x8 x10 x11 x12 y0 u := (br_wp (rl_wp fun _ => (rl_wp fun _ => (wp_v_5_atomCell_113 hR15 hQ))) (wp_v_5_atomCell_113 hR15 hQ))
def pv_5_atomCell_87 (R15 : Int → Int → Int → Int → Int → Int → Int → iST → Prop) (Q : Int → iST → Prop) (x2 : Int) (x3 : Int) (x4 : Int) (x6 : Int) (x8 : Int) (x10 : Int) (x11 : Int) (x12 : Int) (u : iST) : Prop :=
  pv_5_atomCell_92 R15 Q x2 x3 x4 x6 x8 x10 x11 x12 1 u
theorem cj_v_5_atomCell_87 {Q1 Q2 Q3 : Int → iST → Prop} {R151 R152 R153 : Int → Int → Int → Int → Int → Int → Int → iST → Prop} {x2 : Int} {x3 : Int} {x4 : Int} {x6 : Int} {x8 : Int} {x10 : Int} {x11 : Int} {x12 : Int} {u : iST} (hR15 : ∀ r0 r1 r2 r3 r4 r5 r6 r7, R151 r0 r1 r2 r3 r4 r5 r6 r7 → R152 r0 r1 r2 r3 r4 r5 r6 r7 → R153 r0 r1 r2 r3 r4 r5 r6 r7) (hQ : ∀ r0 r1, Q1 r0 r1 → Q2 r0 r1 → Q3 r0 r1) : v_5_atomCell_87 R151 Q1 x2 x3 x4 x6 x8 x10 x11 x12 u → pv_5_atomCell_87 R152 Q2 x2 x3 x4 x6 x8 x10 x11 x12 u → v_5_atomCell_87 R153 Q3 x2 x3 x4 x6 x8 x10 x11 x12 u := (cj_v_5_atomCell_92 hR15 hQ)
theorem mn_v_5_atomCell_87 {Q1 Q2 : Int → iST → Prop} {R151 R152 : Int → Int → Int → Int → Int → Int → Int → iST → Prop} {x2 : Int} {x3 : Int} {x4 : Int} {x6 : Int} {x8 : Int} {x10 : Int} {x11 : Int} {x12 : Int} {u : iST} (hR15 : ∀ r0 r1 r2 r3 r4 r5 r6 r7, R151 r0 r1 r2 r3 r4 r5 r6 r7 → R152 r0 r1 r2 r3 r4 r5 r6 r7) (hQ : ∀ r0 r1, Q1 r0 r1 → Q2 r0 r1) : pv_5_atomCell_87 R151 Q1 x2 x3 x4 x6 x8 x10 x11 x12 u → pv_5_atomCell_87 R152 Q2 x2 x3 x4 x6 x8 x10 x11 x12 u := (mn_v_5_atomCell_92 hR15 hQ)
theorem wp_v_5_atomCell_87 {Q1 Q2 : Int → iST → Prop} {R151 R152 : Int → Int → Int → Int → Int → Int → Int → iST → Prop} {x2 : Int} {x3 : Int} {x4 : Int} {x6 : Int} {x8 : Int} {x10 : Int} {x11 : Int} {x12 : Int} {u : iST} (hR15 : ∀ r0 r1 r2 r3 r4 r5 r6 r7, R151 r0 r1 r2 r3 r4 r5 r6 r7 → R152 r0 r1 r2 r3 r4 r5 r6 r7) (hQ : ∀ r0 r1, Q1 r0 r1 → Q2 r0 r1) : v_5_atomCell_87 R151 Q1 x2 x3 x4 x6 x8 x10 x11 x12 u → pv_5_atomCell_87 R152 Q2 x2 x3 x4 x6 x8 x10 x11 x12 u := (wp_v_5_atomCell_92 hR15 hQ)
def pv_5_atomCell_58 (R15 : Int → Int → Int → Int → Int → Int → Int → iST → Prop) (Q : Int → iST → Prop) (x2 : Int) (x3 : Int) (x4 : Int) (x6 : Int) (x9 : Int) (x10 : Int) (x11 : Int) (x12 : Int) (y0 : Int) (u : iST) : Prop :=
  br (y0 = 0) (
    pv_5_atomCell_115 R15 Q x2 x3 x4 x6 y0 x9 x10 x11 u) (
    br (x9 ≠ 0) (
      pv_5_atomCell_87 R15 Q x2 x3 x4 x6 y0 x10 x11 x12 u) (
      rl (wlsub 4611686018427387903 x12) (fun v14 => 
      (0 : Int) < 10 ∧ (
      br (x4 ≤ (Int.tdiv v14 10)) (
        pv_5_atomCell_92 R15 Q x2 x3 x4 x6 y0 x10 x11 x12 0 u) (
        pv_5_atomCell_87 R15 Q x2 x3 x4 x6 y0 x10 x11 x12 u)))))
theorem cj_v_5_atomCell_58 {Q1 Q2 Q3 : Int → iST → Prop} {R151 R152 R153 : Int → Int → Int → Int → Int → Int → Int → iST → Prop} {x2 : Int} {x3 : Int} {x4 : Int} {x6 : Int} {x9 : Int} {x10 : Int} {x11 : Int} {x12 : Int} {y0 : Int} {u : iST} (hR15 : ∀ r0 r1 r2 r3 r4 r5 r6 r7, R151 r0 r1 r2 r3 r4 r5 r6 r7 → R152 r0 r1 r2 r3 r4 r5 r6 r7 → R153 r0 r1 r2 r3 r4 r5 r6 r7) (hQ : ∀ r0 r1, Q1 r0 r1 → Q2 r0 r1 → Q3 r0 r1) : v_5_atomCell_58 R151 Q1 x2 x3 x4 x6 x9 x10 x11 x12 y0 u → pv_5_atomCell_58 R152 Q2 x2 x3 x4 x6 x9 x10 x11 x12 y0 u → v_5_atomCell_58 R153 Q3 x2 x3 x4 x6 x9 x10 x11 x12 y0 u := (br_cj (cj_v_5_atomCell_115 hR15 hQ) (br_cj (cj_v_5_atomCell_87 hR15 hQ) (rl_cj fun _ => (an_cj (br_cj (cj_v_5_atomCell_92 hR15 hQ) (cj_v_5_atomCell_87 hR15 hQ))))))
theorem mn_v_5_atomCell_58 {Q1 Q2 : Int → iST → Prop} {R151 R152 : Int → Int → Int → Int → Int → Int → Int → iST → Prop} {x2 : Int} {x3 : Int} {x4 : Int} {x6 : Int} {x9 : Int} {x10 : Int} {x11 : Int} {x12 : Int} {y0 : Int} {u : iST} (hR15 : ∀ r0 r1 r2 r3 r4 r5 r6 r7, R151 r0 r1 r2 r3 r4 r5 r6 r7 → R152 r0 r1 r2 r3 r4 r5 r6 r7) (hQ : ∀ r0 r1, Q1 r0 r1 → Q2 r0 r1) : pv_5_atomCell_58 R151 Q1 x2 x3 x4 x6 x9 x10 x11 x12 y0 u → pv_5_atomCell_58 R152 Q2 x2 x3 x4 x6 x9 x10 x11 x12 y0 u := (br_mn (mn_v_5_atomCell_115 hR15 hQ) (br_mn (mn_v_5_atomCell_87 hR15 hQ) (rl_mn fun _ => (an_mn (br_mn (mn_v_5_atomCell_92 hR15 hQ) (mn_v_5_atomCell_87 hR15 hQ))))))
theorem wp_v_5_atomCell_58 {Q1 Q2 : Int → iST → Prop} {R151 R152 : Int → Int → Int → Int → Int → Int → Int → iST → Prop} {x2 : Int} {x3 : Int} {x4 : Int} {x6 : Int} {x9 : Int} {x10 : Int} {x11 : Int} {x12 : Int} {y0 : Int} {u : iST} (hR15 : ∀ r0 r1 r2 r3 r4 r5 r6 r7, R151 r0 r1 r2 r3 r4 r5 r6 r7 → R152 r0 r1 r2 r3 r4 r5 r6 r7) (hQ : ∀ r0 r1, Q1 r0 r1 → Q2 r0 r1) : v_5_atomCell_58 R151 Q1 x2 x3 x4 x6 x9 x10 x11 x12 y0 u → pv_5_atomCell_58 R152 Q2 x2 x3 x4 x6 x9 x10 x11 x12 y0 u := (br_wp (wp_v_5_atomCell_115 hR15 hQ) (br_wp (wp_v_5_atomCell_87 hR15 hQ) (rl_wp fun _ => (an_wp (br_wp (wp_v_5_atomCell_92 hR15 hQ) (wp_v_5_atomCell_87 hR15 hQ))))))
def pv_5_atomCell_57 (R15 : Int → Int → Int → Int → Int → Int → Int → iST → Prop) (Q : Int → iST → Prop) (x2 : Int) (x3 : Int) (x4 : Int) (x6 : Int) (x9 : Int) (x10 : Int) (x11 : Int) (x12 : Int) (u : iST) : Prop :=
  pv_5_atomCell_58 R15 Q x2 x3 x4 x6 x9 x10 x11 x12 0 u
theorem cj_v_5_atomCell_57 {Q1 Q2 Q3 : Int → iST → Prop} {R151 R152 R153 : Int → Int → Int → Int → Int → Int → Int → iST → Prop} {x2 : Int} {x3 : Int} {x4 : Int} {x6 : Int} {x9 : Int} {x10 : Int} {x11 : Int} {x12 : Int} {u : iST} (hR15 : ∀ r0 r1 r2 r3 r4 r5 r6 r7, R151 r0 r1 r2 r3 r4 r5 r6 r7 → R152 r0 r1 r2 r3 r4 r5 r6 r7 → R153 r0 r1 r2 r3 r4 r5 r6 r7) (hQ : ∀ r0 r1, Q1 r0 r1 → Q2 r0 r1 → Q3 r0 r1) : v_5_atomCell_57 R151 Q1 x2 x3 x4 x6 x9 x10 x11 x12 u → pv_5_atomCell_57 R152 Q2 x2 x3 x4 x6 x9 x10 x11 x12 u → v_5_atomCell_57 R153 Q3 x2 x3 x4 x6 x9 x10 x11 x12 u := (cj_v_5_atomCell_58 hR15 hQ)
theorem mn_v_5_atomCell_57 {Q1 Q2 : Int → iST → Prop} {R151 R152 : Int → Int → Int → Int → Int → Int → Int → iST → Prop} {x2 : Int} {x3 : Int} {x4 : Int} {x6 : Int} {x9 : Int} {x10 : Int} {x11 : Int} {x12 : Int} {u : iST} (hR15 : ∀ r0 r1 r2 r3 r4 r5 r6 r7, R151 r0 r1 r2 r3 r4 r5 r6 r7 → R152 r0 r1 r2 r3 r4 r5 r6 r7) (hQ : ∀ r0 r1, Q1 r0 r1 → Q2 r0 r1) : pv_5_atomCell_57 R151 Q1 x2 x3 x4 x6 x9 x10 x11 x12 u → pv_5_atomCell_57 R152 Q2 x2 x3 x4 x6 x9 x10 x11 x12 u := (mn_v_5_atomCell_58 hR15 hQ)
theorem wp_v_5_atomCell_57 {Q1 Q2 : Int → iST → Prop} {R151 R152 : Int → Int → Int → Int → Int → Int → Int → iST → Prop} {x2 : Int} {x3 : Int} {x4 : Int} {x6 : Int} {x9 : Int} {x10 : Int} {x11 : Int} {x12 : Int} {u : iST} (hR15 : ∀ r0 r1 r2 r3 r4 r5 r6 r7, R151 r0 r1 r2 r3 r4 r5 r6 r7 → R152 r0 r1 r2 r3 r4 r5 r6 r7) (hQ : ∀ r0 r1, Q1 r0 r1 → Q2 r0 r1) : v_5_atomCell_57 R151 Q1 x2 x3 x4 x6 x9 x10 x11 x12 u → pv_5_atomCell_57 R152 Q2 x2 x3 x4 x6 x9 x10 x11 x12 u := (wp_v_5_atomCell_58 hR15 hQ)
def pv_5_atomCell_15b (R15 : Int → Int → Int → Int → Int → Int → Int → iST → Prop) (Q : Int → iST → Prop) (x2 : Int) (x3 : Int) (x4 : Int) (x6 : Int) (x8 : Int) (x9 : Int) (x10 : Int) (u : iST) : Prop :=
  br (x3 ≤ x10) (
    br (x8 = 0) (
      ovp (x3 - x2) (
      br ((x3 - x2) ≤ 11) (
        rl (wlor 4611686018427387904 x6) (fun v2 => 
        Q v2 u)) (
        Q (-1) u))) (
      br (x9 = 0) (
        Q x4 u) (
        Q (-1) u))) (
    bdp x10 3000 (rh (u.2.1 44 x10) (fun v3 => 
    ovp (v3 - 48) (
    br (x8 = 0) (
      pv_5_atomCell_57 R15 Q x2 x3 x4 x6 x9 x10 v3 (v3 - 48) u) (
      br (v3 < 48) (
        pv_5_atomCell_57 R15 Q x2 x3 x4 x6 x9 x10 v3 (v3 - 48) u) (
        br (57 < v3) (
          pv_5_atomCell_57 R15 Q x2 x3 x4 x6 x9 x10 v3 (v3 - 48) u) (
          pv_5_atomCell_58 R15 Q x2 x3 x4 x6 x9 x10 v3 (v3 - 48) 1 u)))))))
theorem cj_v_5_atomCell_15b {Q1 Q2 Q3 : Int → iST → Prop} {R151 R152 R153 : Int → Int → Int → Int → Int → Int → Int → iST → Prop} {x2 : Int} {x3 : Int} {x4 : Int} {x6 : Int} {x8 : Int} {x9 : Int} {x10 : Int} {u : iST} (hR15 : ∀ r0 r1 r2 r3 r4 r5 r6 r7, R151 r0 r1 r2 r3 r4 r5 r6 r7 → R152 r0 r1 r2 r3 r4 r5 r6 r7 → R153 r0 r1 r2 r3 r4 r5 r6 r7) (hQ : ∀ r0 r1, Q1 r0 r1 → Q2 r0 r1 → Q3 r0 r1) : v_5_atomCell_15b R151 Q1 x2 x3 x4 x6 x8 x9 x10 u → pv_5_atomCell_15b R152 Q2 x2 x3 x4 x6 x8 x9 x10 u → v_5_atomCell_15b R153 Q3 x2 x3 x4 x6 x8 x9 x10 u := (br_cj (br_cj (ov_cj (br_cj (rl_cj fun _ => (hQ _ _)) (hQ _ _))) (br_cj (hQ _ _) (hQ _ _))) (bd_cj (rh_cj fun _ => (ov_cj (br_cj (cj_v_5_atomCell_57 hR15 hQ) (br_cj (cj_v_5_atomCell_57 hR15 hQ) (br_cj (cj_v_5_atomCell_57 hR15 hQ) (cj_v_5_atomCell_58 hR15 hQ))))))))
theorem mn_v_5_atomCell_15b {Q1 Q2 : Int → iST → Prop} {R151 R152 : Int → Int → Int → Int → Int → Int → Int → iST → Prop} {x2 : Int} {x3 : Int} {x4 : Int} {x6 : Int} {x8 : Int} {x9 : Int} {x10 : Int} {u : iST} (hR15 : ∀ r0 r1 r2 r3 r4 r5 r6 r7, R151 r0 r1 r2 r3 r4 r5 r6 r7 → R152 r0 r1 r2 r3 r4 r5 r6 r7) (hQ : ∀ r0 r1, Q1 r0 r1 → Q2 r0 r1) : pv_5_atomCell_15b R151 Q1 x2 x3 x4 x6 x8 x9 x10 u → pv_5_atomCell_15b R152 Q2 x2 x3 x4 x6 x8 x9 x10 u := (br_mn (br_mn (ov_mn (br_mn (rl_mn fun _ => (hQ _ _)) (hQ _ _))) (br_mn (hQ _ _) (hQ _ _))) (bd_mn (rh_mn fun _ => (ov_mn (br_mn (mn_v_5_atomCell_57 hR15 hQ) (br_mn (mn_v_5_atomCell_57 hR15 hQ) (br_mn (mn_v_5_atomCell_57 hR15 hQ) (mn_v_5_atomCell_58 hR15 hQ))))))))
theorem wp_v_5_atomCell_15b {Q1 Q2 : Int → iST → Prop} {R151 R152 : Int → Int → Int → Int → Int → Int → Int → iST → Prop} {x2 : Int} {x3 : Int} {x4 : Int} {x6 : Int} {x8 : Int} {x9 : Int} {x10 : Int} {u : iST} (hR15 : ∀ r0 r1 r2 r3 r4 r5 r6 r7, R151 r0 r1 r2 r3 r4 r5 r6 r7 → R152 r0 r1 r2 r3 r4 r5 r6 r7) (hQ : ∀ r0 r1, Q1 r0 r1 → Q2 r0 r1) : v_5_atomCell_15b R151 Q1 x2 x3 x4 x6 x8 x9 x10 u → pv_5_atomCell_15b R152 Q2 x2 x3 x4 x6 x8 x9 x10 u := (br_wp (br_wp (ov_wp (br_wp (rl_wp fun _ => (hQ _ _)) (hQ _ _))) (br_wp (hQ _ _) (hQ _ _))) (bd_wp (rh_wp fun _ => (ov_wp (br_wp (wp_v_5_atomCell_57 hR15 hQ) (br_wp (wp_v_5_atomCell_57 hR15 hQ) (br_wp (wp_v_5_atomCell_57 hR15 hQ) (wp_v_5_atomCell_58 hR15 hQ))))))))
def pv_5_atomCell_15 (Q : Int → iST → Prop) (x2 : Int) (x3 : Int) (x4 : Int) (x6 : Int) (x8 : Int) (x9 : Int) (x10 : Int) (u : iST) : Prop := ∃ R15 : Int → Int → Int → Int → Int → Int → Int → iST → Prop, (∀ (x2 : Int) (x3 : Int) (x4 : Int) (x6 : Int) (x8 : Int) (x9 : Int) (x10 : Int) (u : iST), R15 x2 x3 x4 x6 x8 x9 x10 u → pv_5_atomCell_15b R15 Q x2 x3 x4 x6 x8 x9 x10 u) ∧ R15 x2 x3 x4 x6 x8 x9 x10 u
theorem cj_v_5_atomCell_15 {Q1 Q2 Q3 : Int → iST → Prop}  {x2 : Int} {x3 : Int} {x4 : Int} {x6 : Int} {x8 : Int} {x9 : Int} {x10 : Int} {u : iST} (hQ : ∀ r0 r1, Q1 r0 r1 → Q2 r0 r1 → Q3 r0 r1) : v_5_atomCell_15 Q1 x2 x3 x4 x6 x8 x9 x10 u → pv_5_atomCell_15 Q2 x2 x3 x4 x6 x8 x9 x10 u → v_5_atomCell_15 Q3 x2 x3 x4 x6 x8 x9 x10 u := by
  intro a b R3 c3
  obtain ⟨R2, c2, b2⟩ := b
  exact a (fun r0 r1 r2 r3 r4 r5 r6 r7 => R2 r0 r1 r2 r3 r4 r5 r6 r7 → R3 r0 r1 r2 r3 r4 r5 r6 r7) (fun r0 r1 r2 r3 r4 r5 r6 r7 a b => c3 r0 r1 r2 r3 r4 r5 r6 r7 (cj_v_5_atomCell_15b (fun r0 r1 r2 r3 r4 r5 r6 r7 a b => a b) hQ a (c2 r0 r1 r2 r3 r4 r5 r6 r7 b))) b2
theorem pv_5_atomCell_15_i  {Q : Int → iST → Prop} {x2 : Int} {x3 : Int} {x4 : Int} {x6 : Int} {x8 : Int} {x9 : Int} {x10 : Int} {u : iST} (I : Int → Int → Int → Int → Int → Int → Int → iST → Prop) (s : ∀ (x2 : Int) (x3 : Int) (x4 : Int) (x6 : Int) (x8 : Int) (x9 : Int) (x10 : Int) (u : iST), I x2 x3 x4 x6 x8 x9 x10 u → pv_5_atomCell_15b I Q x2 x3 x4 x6 x8 x9 x10 u) (h : I x2 x3 x4 x6 x8 x9 x10 u) : pv_5_atomCell_15 Q x2 x3 x4 x6 x8 x9 x10 u := ⟨I, s, h⟩
theorem mn_v_5_atomCell_15 {Q1 Q2 : Int → iST → Prop}  {x2 : Int} {x3 : Int} {x4 : Int} {x6 : Int} {x8 : Int} {x9 : Int} {x10 : Int} {u : iST} (hQ : ∀ r0 r1, Q1 r0 r1 → Q2 r0 r1) : pv_5_atomCell_15 Q1 x2 x3 x4 x6 x8 x9 x10 u → pv_5_atomCell_15 Q2 x2 x3 x4 x6 x8 x9 x10 u := fun ⟨R, s, h⟩ => ⟨R, fun r0 r1 r2 r3 r4 r5 r6 r7 a => mn_v_5_atomCell_15b (fun r0 r1 r2 r3 r4 r5 r6 r7 a => a) hQ (s r0 r1 r2 r3 r4 r5 r6 r7 a), h⟩
theorem un_v_5_atomCell_15  {Q : Int → iST → Prop} {x2 : Int} {x3 : Int} {x4 : Int} {x6 : Int} {x8 : Int} {x9 : Int} {x10 : Int} {u : iST} : pv_5_atomCell_15 Q x2 x3 x4 x6 x8 x9 x10 u → pv_5_atomCell_15b (fun x2 x3 x4 x6 x8 x9 x10 u => pv_5_atomCell_15 Q x2 x3 x4 x6 x8 x9 x10 u) Q x2 x3 x4 x6 x8 x9 x10 u := fun ⟨R, s, h⟩ => mn_v_5_atomCell_15b (fun r0 r1 r2 r3 r4 r5 r6 r7 a => ⟨R, s, a⟩) (fun _ _ h => h) (s _ _ _ _ _ _ _ _ h)
theorem fo_v_5_atomCell_15  {Q : Int → iST → Prop} {x2 : Int} {x3 : Int} {x4 : Int} {x6 : Int} {x8 : Int} {x9 : Int} {x10 : Int} {u : iST} : pv_5_atomCell_15b (fun x2 x3 x4 x6 x8 x9 x10 u => pv_5_atomCell_15 Q x2 x3 x4 x6 x8 x9 x10 u) Q x2 x3 x4 x6 x8 x9 x10 u → pv_5_atomCell_15 Q x2 x3 x4 x6 x8 x9 x10 u := fun h => ⟨fun x2 x3 x4 x6 x8 x9 x10 u => pv_5_atomCell_15b (fun x2 x3 x4 x6 x8 x9 x10 u => pv_5_atomCell_15 Q x2 x3 x4 x6 x8 x9 x10 u) Q x2 x3 x4 x6 x8 x9 x10 u, fun r0 r1 r2 r3 r4 r5 r6 r7 a => mn_v_5_atomCell_15b (fun r0 r1 r2 r3 r4 r5 r6 r7 a => un_v_5_atomCell_15 a) (fun _ _ h => h) a, h⟩
theorem wp_v_5_atomCell_15 {Q1 Q2 : Int → iST → Prop}  {x2 : Int} {x3 : Int} {x4 : Int} {x6 : Int} {x8 : Int} {x9 : Int} {x10 : Int} {u : iST} (hQ : ∀ r0 r1, Q1 r0 r1 → Q2 r0 r1) : v_5_atomCell_15 Q1 x2 x3 x4 x6 x8 x9 x10 u → pv_5_atomCell_15 Q2 x2 x3 x4 x6 x8 x9 x10 u := fun a => a (fun x2 x3 x4 x6 x8 x9 x10 u => pv_5_atomCell_15 Q2 x2 x3 x4 x6 x8 x9 x10 u) (fun x2 x3 x4 x6 x8 x9 x10 u b => fo_v_5_atomCell_15 (wp_v_5_atomCell_15b (fun r0 r1 r2 r3 r4 r5 r6 r7 a => a) hQ b))
def pv_5_atomCell (a1 : Int) (a2 : Int) (Q : Int → iST → Prop) (u : iST) : Prop :=
  pv_5_atomCell_15 Q a1 a2 0 0 1 0 a1 u
theorem cj_v_5_atomCell {Q1 Q2 Q3 : Int → iST → Prop}  {a1 : Int} {a2 : Int} {u : iST} (hQ : ∀ r0 r1, Q1 r0 r1 → Q2 r0 r1 → Q3 r0 r1) : v_5_atomCell a1 a2 Q1 u → pv_5_atomCell a1 a2 Q2 u → v_5_atomCell a1 a2 Q3 u := (cj_v_5_atomCell_15  hQ)
theorem mn_v_5_atomCell {Q1 Q2 : Int → iST → Prop}  {a1 : Int} {a2 : Int} {u : iST} (hQ : ∀ r0 r1, Q1 r0 r1 → Q2 r0 r1) : pv_5_atomCell a1 a2 Q1 u → pv_5_atomCell a1 a2 Q2 u := (mn_v_5_atomCell_15  hQ)
theorem wp_v_5_atomCell {Q1 Q2 : Int → iST → Prop}  {a1 : Int} {a2 : Int} {u : iST} (hQ : ∀ r0 r1, Q1 r0 r1 → Q2 r0 r1) : v_5_atomCell a1 a2 Q1 u → pv_5_atomCell a1 a2 Q2 u := (wp_v_5_atomCell_15  hQ)
def pv_5_refuse (a0 : Int) (a1 : Int) (Q : iST → Prop) (u : iST) : Prop :=
  sw (iI u 21 a0) (fun u => 
  sw (iI u 22 a1) (fun u => 
  Q u))
theorem cj_v_5_refuse {Q1 Q2 Q3 : iST → Prop}  {a0 : Int} {a1 : Int} {u : iST} (hQ : ∀ r0, Q1 r0 → Q2 r0 → Q3 r0) : v_5_refuse a0 a1 Q1 u → pv_5_refuse a0 a1 Q2 u → v_5_refuse a0 a1 Q3 u := (sw_cj fun _ => (sw_cj fun _ => (hQ _)))
theorem mn_v_5_refuse {Q1 Q2 : iST → Prop}  {a0 : Int} {a1 : Int} {u : iST} (hQ : ∀ r0, Q1 r0 → Q2 r0) : pv_5_refuse a0 a1 Q1 u → pv_5_refuse a0 a1 Q2 u := (sw_mn fun _ => (sw_mn fun _ => (hQ _)))
theorem wp_v_5_refuse {Q1 Q2 : iST → Prop}  {a0 : Int} {a1 : Int} {u : iST} (hQ : ∀ r0, Q1 r0 → Q2 r0) : v_5_refuse a0 a1 Q1 u → pv_5_refuse a0 a1 Q2 u := (sw_wp fun _ => (sw_wp fun _ => (hQ _)))
def pv_5_canStand (a0 : Int) (Q : Int → iST → Prop) (u : iST) : Prop :=
  rd (u.1 17) (fun v1 => 
  bdp v1 41 (rd (u.2.1 23 v1) (fun v2 => 
  br (v2 = 1) (
    br (a0 = 46) (
      ztp 0 (Q 0 u)) (
      ztp 1 (Q 1 u))) (
  br (v2 = 2) (
    ztp 1 (Q 1 u)) (
  br (v2 = 3) (
    br (a0 = 46) (
      ztp 0 (Q 0 u)) (
      br (a0 = 41) (
        ztp 0 (Q 0 u)) (
        ztp 1 (Q 1 u)))) (
  br (v2 = 4) (
    br (a0 ≠ 41) (
      ztp 0 (Q 0 u)) (
      ztp 1 (Q 1 u))) (
  br (v2 = 5) (
    br (a0 = 46) (
      ztp 0 (Q 0 u)) (
      br (a0 = 41) (
        ztp 0 (Q 0 u)) (
        ztp 1 (Q 1 u)))) (
  br (v2 = 6) (
    ztp 0 (Q 0 u)) (
  br (a0 = 46) (
    ztp 0 (Q 0 u)) (
    br (a0 = 41) (
      ztp 0 (Q 0 u)) (
      ztp 1 (Q 1 u))))))))))))
theorem cj_v_5_canStand {Q1 Q2 Q3 : Int → iST → Prop}  {a0 : Int} {u : iST} (hQ : ∀ r0 r1, Q1 r0 r1 → Q2 r0 r1 → Q3 r0 r1) : v_5_canStand a0 Q1 u → pv_5_canStand a0 Q2 u → v_5_canStand a0 Q3 u := (rd_cj fun _ => (bd_cj (rd_cj fun _ => (br_cj (br_cj (zt_cj (hQ _ _)) (zt_cj (hQ _ _))) (br_cj (zt_cj (hQ _ _)) (br_cj (br_cj (zt_cj (hQ _ _)) (br_cj (zt_cj (hQ _ _)) (zt_cj (hQ _ _)))) (br_cj (br_cj (zt_cj (hQ _ _)) (zt_cj (hQ _ _))) (br_cj (br_cj (zt_cj (hQ _ _)) (br_cj (zt_cj (hQ _ _)) (zt_cj (hQ _ _)))) (br_cj (zt_cj (hQ _ _)) (br_cj (zt_cj (hQ _ _)) (br_cj (zt_cj (hQ _ _)) (zt_cj (hQ _ _)))))))))))))
theorem mn_v_5_canStand {Q1 Q2 : Int → iST → Prop}  {a0 : Int} {u : iST} (hQ : ∀ r0 r1, Q1 r0 r1 → Q2 r0 r1) : pv_5_canStand a0 Q1 u → pv_5_canStand a0 Q2 u := (rd_mn fun _ => (bd_mn (rd_mn fun _ => (br_mn (br_mn (zt_mn (hQ _ _)) (zt_mn (hQ _ _))) (br_mn (zt_mn (hQ _ _)) (br_mn (br_mn (zt_mn (hQ _ _)) (br_mn (zt_mn (hQ _ _)) (zt_mn (hQ _ _)))) (br_mn (br_mn (zt_mn (hQ _ _)) (zt_mn (hQ _ _))) (br_mn (br_mn (zt_mn (hQ _ _)) (br_mn (zt_mn (hQ _ _)) (zt_mn (hQ _ _)))) (br_mn (zt_mn (hQ _ _)) (br_mn (zt_mn (hQ _ _)) (br_mn (zt_mn (hQ _ _)) (zt_mn (hQ _ _)))))))))))))
theorem wp_v_5_canStand {Q1 Q2 : Int → iST → Prop}  {a0 : Int} {u : iST} (hQ : ∀ r0 r1, Q1 r0 r1 → Q2 r0 r1) : v_5_canStand a0 Q1 u → pv_5_canStand a0 Q2 u := (rd_wp fun _ => (bd_wp (rd_wp fun _ => (br_wp (br_wp (zt_wp (hQ _ _)) (zt_wp (hQ _ _))) (br_wp (zt_wp (hQ _ _)) (br_wp (br_wp (zt_wp (hQ _ _)) (br_wp (zt_wp (hQ _ _)) (zt_wp (hQ _ _)))) (br_wp (br_wp (zt_wp (hQ _ _)) (zt_wp (hQ _ _))) (br_wp (br_wp (zt_wp (hQ _ _)) (br_wp (zt_wp (hQ _ _)) (zt_wp (hQ _ _)))) (br_wp (zt_wp (hQ _ _)) (br_wp (zt_wp (hQ _ _)) (br_wp (zt_wp (hQ _ _)) (zt_wp (hQ _ _)))))))))))))
def pv_5_deliver_59 (Q : iST → Prop) (x2 : Int) (u : iST) : Prop :=
  rd (u.1 17) (fun v2 => 
  bdp v2 41 (rd (u.2.1 23 v2) (fun v3 => 
  br (v3 ≠ 0) (
    rd (u.1 17) (fun v4 => 
    bdp v4 41 (rd (u.2.1 23 v4) (fun v5 => 
    br (v5 ≠ 3) (
      rd (u.1 18) (fun v6 => 
      br (1000 ≤ v6) (
        Q u) (
        rd (u.1 18) (fun v7 => 
        bdp v7 1000 (sw (iA u 26 v7 x2) (fun u => 
        rd (u.1 18) (fun v8 => 
        ovp (v8 + 1) (
        sw (iI u 18 (v8 + 1)) (fun u => 
        rd (u.1 17) (fun v10 => 
        bdp v10 41 (sw (iA u 23 v10 2) (fun u => 
        Q u)))))))))))) (
      rd (u.1 17) (fun v11 => 
      bdp v11 41 (sw (iA u 25 v11 x2) (fun u => 
      rd (u.1 17) (fun v12 => 
      bdp v12 41 (sw (iA u 23 v12 4) (fun u => 
      Q u))))))))))) (
    sw (iI u 20 x2) (fun u => 
    rd (u.1 17) (fun v13 => 
    bdp v13 41 (sw (iA u 23 v13 6) (fun u => 
    Q u))))))))
theorem cj_v_5_deliver_59 {Q1 Q2 Q3 : iST → Prop}  {x2 : Int} {u : iST} (hQ : ∀ r0, Q1 r0 → Q2 r0 → Q3 r0) : v_5_deliver_59 Q1 x2 u → pv_5_deliver_59 Q2 x2 u → v_5_deliver_59 Q3 x2 u := (rd_cj fun _ => (bd_cj (rd_cj fun _ => (br_cj (rd_cj fun _ => (bd_cj (rd_cj fun _ => (br_cj (rd_cj fun _ => (br_cj (hQ _) (rd_cj fun _ => (bd_cj (sw_cj fun _ => (rd_cj fun _ => (ov_cj (sw_cj fun _ => (rd_cj fun _ => (bd_cj (sw_cj fun _ => (hQ _)))))))))))) (rd_cj fun _ => (bd_cj (sw_cj fun _ => (rd_cj fun _ => (bd_cj (sw_cj fun _ => (hQ _))))))))))) (sw_cj fun _ => (rd_cj fun _ => (bd_cj (sw_cj fun _ => (hQ _)))))))))
theorem mn_v_5_deliver_59 {Q1 Q2 : iST → Prop}  {x2 : Int} {u : iST} (hQ : ∀ r0, Q1 r0 → Q2 r0) : pv_5_deliver_59 Q1 x2 u → pv_5_deliver_59 Q2 x2 u := (rd_mn fun _ => (bd_mn (rd_mn fun _ => (br_mn (rd_mn fun _ => (bd_mn (rd_mn fun _ => (br_mn (rd_mn fun _ => (br_mn (hQ _) (rd_mn fun _ => (bd_mn (sw_mn fun _ => (rd_mn fun _ => (ov_mn (sw_mn fun _ => (rd_mn fun _ => (bd_mn (sw_mn fun _ => (hQ _)))))))))))) (rd_mn fun _ => (bd_mn (sw_mn fun _ => (rd_mn fun _ => (bd_mn (sw_mn fun _ => (hQ _))))))))))) (sw_mn fun _ => (rd_mn fun _ => (bd_mn (sw_mn fun _ => (hQ _)))))))))
theorem wp_v_5_deliver_59 {Q1 Q2 : iST → Prop}  {x2 : Int} {u : iST} (hQ : ∀ r0, Q1 r0 → Q2 r0) : v_5_deliver_59 Q1 x2 u → pv_5_deliver_59 Q2 x2 u := (rd_wp fun _ => (bd_wp (rd_wp fun _ => (br_wp (rd_wp fun _ => (bd_wp (rd_wp fun _ => (br_wp (rd_wp fun _ => (br_wp (hQ _) (rd_wp fun _ => (bd_wp (sw_wp fun _ => (rd_wp fun _ => (ov_wp (sw_wp fun _ => (rd_wp fun _ => (bd_wp (sw_wp fun _ => (hQ _)))))))))))) (rd_wp fun _ => (bd_wp (sw_wp fun _ => (rd_wp fun _ => (bd_wp (sw_wp fun _ => (hQ _))))))))))) (sw_wp fun _ => (rd_wp fun _ => (bd_wp (sw_wp fun _ => (hQ _)))))))))
def pv_5_deliver_2b (R2 : Int → iST → Prop) (Q : iST → Prop) (x2 : Int) (u : iST) : Prop :=
  rd (u.1 17) (fun v1 => 
  br (v1 ≤ 0) (
    pv_5_deliver_59 Q x2 u) (
    rd (u.1 17) (fun v14 => 
    bdp v14 41 (rd (u.2.1 23 v14) (fun v15 => 
    br (v15 ≠ 5) (
      pv_5_deliver_59 Q x2 u) (
      pv_11_pairCell x2 0 (fun v16 u => 
      pv_7_made v16 (fun v17 u => 
      pv_11_pairCell 2 v17 (fun v18 u => 
      pv_7_made v18 (fun v19 u => 
      rd (u.1 17) (fun v20 => 
      ovp (v20 - 1) (
      sw (iI u 17 (v20 - 1)) (fun u => 
      R2 v19 u)))) u) u) u) u))))))
theorem cj_v_5_deliver_2b {Q1 Q2 Q3 : iST → Prop} {R21 R22 R23 : Int → iST → Prop} {x2 : Int} {u : iST} (hR2 : ∀ r0 r1, R21 r0 r1 → R22 r0 r1 → R23 r0 r1) (hQ : ∀ r0, Q1 r0 → Q2 r0 → Q3 r0) : v_5_deliver_2b R21 Q1 x2 u → pv_5_deliver_2b R22 Q2 x2 u → v_5_deliver_2b R23 Q3 x2 u := (rd_cj fun _ => (br_cj (cj_v_5_deliver_59  hQ) (rd_cj fun _ => (bd_cj (rd_cj fun _ => (br_cj (cj_v_5_deliver_59  hQ) (cj_v_11_pairCell (fun _ _ => (cj_v_7_made (fun _ _ => (cj_v_11_pairCell (fun _ _ => (cj_v_7_made (fun _ _ => (rd_cj fun _ => (ov_cj (sw_cj fun _ => (hR2 _ _))))))))))))))))))
theorem mn_v_5_deliver_2b {Q1 Q2 : iST → Prop} {R21 R22 : Int → iST → Prop} {x2 : Int} {u : iST} (hR2 : ∀ r0 r1, R21 r0 r1 → R22 r0 r1) (hQ : ∀ r0, Q1 r0 → Q2 r0) : pv_5_deliver_2b R21 Q1 x2 u → pv_5_deliver_2b R22 Q2 x2 u := (rd_mn fun _ => (br_mn (mn_v_5_deliver_59  hQ) (rd_mn fun _ => (bd_mn (rd_mn fun _ => (br_mn (mn_v_5_deliver_59  hQ) (mn_v_11_pairCell (fun _ _ => (mn_v_7_made (fun _ _ => (mn_v_11_pairCell (fun _ _ => (mn_v_7_made (fun _ _ => (rd_mn fun _ => (ov_mn (sw_mn fun _ => (hR2 _ _))))))))))))))))))
theorem wp_v_5_deliver_2b {Q1 Q2 : iST → Prop} {R21 R22 : Int → iST → Prop} {x2 : Int} {u : iST} (hR2 : ∀ r0 r1, R21 r0 r1 → R22 r0 r1) (hQ : ∀ r0, Q1 r0 → Q2 r0) : v_5_deliver_2b R21 Q1 x2 u → pv_5_deliver_2b R22 Q2 x2 u := (rd_wp fun _ => (br_wp (wp_v_5_deliver_59  hQ) (rd_wp fun _ => (bd_wp (rd_wp fun _ => (br_wp (wp_v_5_deliver_59  hQ) (wp_v_11_pairCell (fun _ _ => (wp_v_7_made (fun _ _ => (wp_v_11_pairCell (fun _ _ => (wp_v_7_made (fun _ _ => (rd_wp fun _ => (ov_wp (sw_wp fun _ => (hR2 _ _))))))))))))))))))
def pv_5_deliver_2 (Q : iST → Prop) (x2 : Int) (u : iST) : Prop := ∃ R2 : Int → iST → Prop, (∀ (x2 : Int) (u : iST), R2 x2 u → pv_5_deliver_2b R2 Q x2 u) ∧ R2 x2 u
theorem cj_v_5_deliver_2 {Q1 Q2 Q3 : iST → Prop}  {x2 : Int} {u : iST} (hQ : ∀ r0, Q1 r0 → Q2 r0 → Q3 r0) : v_5_deliver_2 Q1 x2 u → pv_5_deliver_2 Q2 x2 u → v_5_deliver_2 Q3 x2 u := by
  intro a b R3 c3
  obtain ⟨R2, c2, b2⟩ := b
  exact a (fun r0 r1 => R2 r0 r1 → R3 r0 r1) (fun r0 r1 a b => c3 r0 r1 (cj_v_5_deliver_2b (fun r0 r1 a b => a b) hQ a (c2 r0 r1 b))) b2
theorem pv_5_deliver_2_i  {Q : iST → Prop} {x2 : Int} {u : iST} (I : Int → iST → Prop) (s : ∀ (x2 : Int) (u : iST), I x2 u → pv_5_deliver_2b I Q x2 u) (h : I x2 u) : pv_5_deliver_2 Q x2 u := ⟨I, s, h⟩
theorem mn_v_5_deliver_2 {Q1 Q2 : iST → Prop}  {x2 : Int} {u : iST} (hQ : ∀ r0, Q1 r0 → Q2 r0) : pv_5_deliver_2 Q1 x2 u → pv_5_deliver_2 Q2 x2 u := fun ⟨R, s, h⟩ => ⟨R, fun r0 r1 a => mn_v_5_deliver_2b (fun r0 r1 a => a) hQ (s r0 r1 a), h⟩
theorem un_v_5_deliver_2  {Q : iST → Prop} {x2 : Int} {u : iST} : pv_5_deliver_2 Q x2 u → pv_5_deliver_2b (fun x2 u => pv_5_deliver_2 Q x2 u) Q x2 u := fun ⟨R, s, h⟩ => mn_v_5_deliver_2b (fun r0 r1 a => ⟨R, s, a⟩) (fun _ h => h) (s _ _ h)
theorem fo_v_5_deliver_2  {Q : iST → Prop} {x2 : Int} {u : iST} : pv_5_deliver_2b (fun x2 u => pv_5_deliver_2 Q x2 u) Q x2 u → pv_5_deliver_2 Q x2 u := fun h => ⟨fun x2 u => pv_5_deliver_2b (fun x2 u => pv_5_deliver_2 Q x2 u) Q x2 u, fun r0 r1 a => mn_v_5_deliver_2b (fun r0 r1 a => un_v_5_deliver_2 a) (fun _ h => h) a, h⟩
theorem wp_v_5_deliver_2 {Q1 Q2 : iST → Prop}  {x2 : Int} {u : iST} (hQ : ∀ r0, Q1 r0 → Q2 r0) : v_5_deliver_2 Q1 x2 u → pv_5_deliver_2 Q2 x2 u := fun a => a (fun x2 u => pv_5_deliver_2 Q2 x2 u) (fun x2 u b => fo_v_5_deliver_2 (wp_v_5_deliver_2b (fun r0 r1 a => a) hQ b))
def pv_5_deliver (a0 : Int) (Q : iST → Prop) (u : iST) : Prop :=
  pv_5_deliver_2 Q a0 u
theorem cj_v_5_deliver {Q1 Q2 Q3 : iST → Prop}  {a0 : Int} {u : iST} (hQ : ∀ r0, Q1 r0 → Q2 r0 → Q3 r0) : v_5_deliver a0 Q1 u → pv_5_deliver a0 Q2 u → v_5_deliver a0 Q3 u := (cj_v_5_deliver_2  hQ)
theorem mn_v_5_deliver {Q1 Q2 : iST → Prop}  {a0 : Int} {u : iST} (hQ : ∀ r0, Q1 r0 → Q2 r0) : pv_5_deliver a0 Q1 u → pv_5_deliver a0 Q2 u := (mn_v_5_deliver_2  hQ)
theorem wp_v_5_deliver {Q1 Q2 : iST → Prop}  {a0 : Int} {u : iST} (hQ : ∀ r0, Q1 r0 → Q2 r0) : v_5_deliver a0 Q1 u → pv_5_deliver a0 Q2 u := (wp_v_5_deliver_2  hQ)
def pv_5_takeMark_161 (Q : iST → Prop) (y1 : Int) (y2 : Int) (u : iST) : Prop :=
  bdp y1 41 (sw (iA u 23 y1 y2) (fun u => 
  rd (u.1 17) (fun v5 => 
  rd (u.1 18) (fun v6 => 
  bdp v5 41 (sw (iA u 24 v5 v6) (fun u => 
  rd (u.1 17) (fun v7 => 
  bdp v7 41 (sw (iA u 25 v7 0) (fun u => 
  Q u)))))))))
theorem cj_v_5_takeMark_161 {Q1 Q2 Q3 : iST → Prop}  {y1 : Int} {y2 : Int} {u : iST} (hQ : ∀ r0, Q1 r0 → Q2 r0 → Q3 r0) : v_5_takeMark_161 Q1 y1 y2 u → pv_5_takeMark_161 Q2 y1 y2 u → v_5_takeMark_161 Q3 y1 y2 u := (bd_cj (sw_cj fun _ => (rd_cj fun _ => (rd_cj fun _ => (bd_cj (sw_cj fun _ => (rd_cj fun _ => (bd_cj (sw_cj fun _ => (hQ _))))))))))
theorem mn_v_5_takeMark_161 {Q1 Q2 : iST → Prop}  {y1 : Int} {y2 : Int} {u : iST} (hQ : ∀ r0, Q1 r0 → Q2 r0) : pv_5_takeMark_161 Q1 y1 y2 u → pv_5_takeMark_161 Q2 y1 y2 u := (bd_mn (sw_mn fun _ => (rd_mn fun _ => (rd_mn fun _ => (bd_mn (sw_mn fun _ => (rd_mn fun _ => (bd_mn (sw_mn fun _ => (hQ _))))))))))
theorem wp_v_5_takeMark_161 {Q1 Q2 : iST → Prop}  {y1 : Int} {y2 : Int} {u : iST} (hQ : ∀ r0, Q1 r0 → Q2 r0) : v_5_takeMark_161 Q1 y1 y2 u → pv_5_takeMark_161 Q2 y1 y2 u := (bd_wp (sw_wp fun _ => (rd_wp fun _ => (rd_wp fun _ => (bd_wp (sw_wp fun _ => (rd_wp fun _ => (bd_wp (sw_wp fun _ => (hQ _))))))))))
def pv_5_takeMark_117 (Q : iST → Prop) (x1 : Int) (u : iST) : Prop :=
  br (x1 = 41) (
    Q u) (
    rd (u.1 17) (fun v1 => 
    br (40 ≤ v1) (
      Q u) (
      rd (u.1 17) (fun v2 => 
      ovp (v2 + 1) (
      sw (iI u 17 (v2 + 1)) (fun u => 
      rd (u.1 17) (fun v4 => 
      br (x1 ≠ 40) (
        pv_5_takeMark_161 Q v4 5 u) (
        pv_5_takeMark_161 Q v4 1 u))))))))
theorem cj_v_5_takeMark_117 {Q1 Q2 Q3 : iST → Prop}  {x1 : Int} {u : iST} (hQ : ∀ r0, Q1 r0 → Q2 r0 → Q3 r0) : v_5_takeMark_117 Q1 x1 u → pv_5_takeMark_117 Q2 x1 u → v_5_takeMark_117 Q3 x1 u := (br_cj (hQ _) (rd_cj fun _ => (br_cj (hQ _) (rd_cj fun _ => (ov_cj (sw_cj fun _ => (rd_cj fun _ => (br_cj (cj_v_5_takeMark_161  hQ) (cj_v_5_takeMark_161  hQ)))))))))
theorem mn_v_5_takeMark_117 {Q1 Q2 : iST → Prop}  {x1 : Int} {u : iST} (hQ : ∀ r0, Q1 r0 → Q2 r0) : pv_5_takeMark_117 Q1 x1 u → pv_5_takeMark_117 Q2 x1 u := (br_mn (hQ _) (rd_mn fun _ => (br_mn (hQ _) (rd_mn fun _ => (ov_mn (sw_mn fun _ => (rd_mn fun _ => (br_mn (mn_v_5_takeMark_161  hQ) (mn_v_5_takeMark_161  hQ)))))))))
theorem wp_v_5_takeMark_117 {Q1 Q2 : iST → Prop}  {x1 : Int} {u : iST} (hQ : ∀ r0, Q1 r0 → Q2 r0) : v_5_takeMark_117 Q1 x1 u → pv_5_takeMark_117 Q2 x1 u := (br_wp (hQ _) (rd_wp fun _ => (br_wp (hQ _) (rd_wp fun _ => (ov_wp (sw_wp fun _ => (rd_wp fun _ => (br_wp (wp_v_5_takeMark_161  hQ) (wp_v_5_takeMark_161  hQ)))))))))
def pv_5_takeMark_99 (Q : iST → Prop) (x2 : Int) (u : iST) : Prop :=
  rd (u.1 17) (fun v14 => 
  ovp (v14 - 1) (
  sw (iI u 17 (v14 - 1)) (fun u => 
  pv_5_deliver x2 (fun u => 
  Q u) u)))
theorem cj_v_5_takeMark_99 {Q1 Q2 Q3 : iST → Prop}  {x2 : Int} {u : iST} (hQ : ∀ r0, Q1 r0 → Q2 r0 → Q3 r0) : v_5_takeMark_99 Q1 x2 u → pv_5_takeMark_99 Q2 x2 u → v_5_takeMark_99 Q3 x2 u := (rd_cj fun _ => (ov_cj (sw_cj fun _ => (cj_v_5_deliver (fun _ => (hQ _))))))
theorem mn_v_5_takeMark_99 {Q1 Q2 : iST → Prop}  {x2 : Int} {u : iST} (hQ : ∀ r0, Q1 r0 → Q2 r0) : pv_5_takeMark_99 Q1 x2 u → pv_5_takeMark_99 Q2 x2 u := (rd_mn fun _ => (ov_mn (sw_mn fun _ => (mn_v_5_deliver (fun _ => (hQ _))))))
theorem wp_v_5_takeMark_99 {Q1 Q2 : iST → Prop}  {x2 : Int} {u : iST} (hQ : ∀ r0, Q1 r0 → Q2 r0) : v_5_takeMark_99 Q1 x2 u → pv_5_takeMark_99 Q2 x2 u := (rd_wp fun _ => (ov_wp (sw_wp fun _ => (wp_v_5_deliver (fun _ => (hQ _))))))
def pv_5_takeMark_42b (R42 : Int → iST → Prop) (Q : iST → Prop) (x2 : Int) (u : iST) : Prop :=
  rd (u.1 18) (fun v11 => 
  rd (u.1 17) (fun v12 => 
  bdp v12 41 (rd (u.2.1 24 v12) (fun v13 => 
  br (v11 ≤ v13) (
    pv_5_takeMark_99 Q x2 u) (
    rd (u.1 18) (fun v17 => 
    br (v17 ≤ 0) (
      pv_5_takeMark_99 Q x2 u) (
      rd (u.1 18) (fun v18 => 
      ovp (v18 - 1) (
      sw (iI u 18 (v18 - 1)) (fun u => 
      rd (u.1 18) (fun v20 => 
      bdp v20 1000 (rd (u.2.1 26 v20) (fun v21 => 
      pv_11_pairCell v21 x2 (fun v22 u => 
      pv_7_made v22 (fun v23 u => 
      R42 v23 u) u) u)))))))))))))
theorem cj_v_5_takeMark_42b {Q1 Q2 Q3 : iST → Prop} {R421 R422 R423 : Int → iST → Prop} {x2 : Int} {u : iST} (hR42 : ∀ r0 r1, R421 r0 r1 → R422 r0 r1 → R423 r0 r1) (hQ : ∀ r0, Q1 r0 → Q2 r0 → Q3 r0) : v_5_takeMark_42b R421 Q1 x2 u → pv_5_takeMark_42b R422 Q2 x2 u → v_5_takeMark_42b R423 Q3 x2 u := (rd_cj fun _ => (rd_cj fun _ => (bd_cj (rd_cj fun _ => (br_cj (cj_v_5_takeMark_99  hQ) (rd_cj fun _ => (br_cj (cj_v_5_takeMark_99  hQ) (rd_cj fun _ => (ov_cj (sw_cj fun _ => (rd_cj fun _ => (bd_cj (rd_cj fun _ => (cj_v_11_pairCell (fun _ _ => (cj_v_7_made (fun _ _ => (hR42 _ _))))))))))))))))))
theorem mn_v_5_takeMark_42b {Q1 Q2 : iST → Prop} {R421 R422 : Int → iST → Prop} {x2 : Int} {u : iST} (hR42 : ∀ r0 r1, R421 r0 r1 → R422 r0 r1) (hQ : ∀ r0, Q1 r0 → Q2 r0) : pv_5_takeMark_42b R421 Q1 x2 u → pv_5_takeMark_42b R422 Q2 x2 u := (rd_mn fun _ => (rd_mn fun _ => (bd_mn (rd_mn fun _ => (br_mn (mn_v_5_takeMark_99  hQ) (rd_mn fun _ => (br_mn (mn_v_5_takeMark_99  hQ) (rd_mn fun _ => (ov_mn (sw_mn fun _ => (rd_mn fun _ => (bd_mn (rd_mn fun _ => (mn_v_11_pairCell (fun _ _ => (mn_v_7_made (fun _ _ => (hR42 _ _))))))))))))))))))
theorem wp_v_5_takeMark_42b {Q1 Q2 : iST → Prop} {R421 R422 : Int → iST → Prop} {x2 : Int} {u : iST} (hR42 : ∀ r0 r1, R421 r0 r1 → R422 r0 r1) (hQ : ∀ r0, Q1 r0 → Q2 r0) : v_5_takeMark_42b R421 Q1 x2 u → pv_5_takeMark_42b R422 Q2 x2 u := (rd_wp fun _ => (rd_wp fun _ => (bd_wp (rd_wp fun _ => (br_wp (wp_v_5_takeMark_99  hQ) (rd_wp fun _ => (br_wp (wp_v_5_takeMark_99  hQ) (rd_wp fun _ => (ov_wp (sw_wp fun _ => (rd_wp fun _ => (bd_wp (rd_wp fun _ => (wp_v_11_pairCell (fun _ _ => (wp_v_7_made (fun _ _ => (hR42 _ _))))))))))))))))))
def pv_5_takeMark_42 (Q : iST → Prop) (x2 : Int) (u : iST) : Prop := ∃ R42 : Int → iST → Prop, (∀ (x2 : Int) (u : iST), R42 x2 u → pv_5_takeMark_42b R42 Q x2 u) ∧ R42 x2 u
theorem cj_v_5_takeMark_42 {Q1 Q2 Q3 : iST → Prop}  {x2 : Int} {u : iST} (hQ : ∀ r0, Q1 r0 → Q2 r0 → Q3 r0) : v_5_takeMark_42 Q1 x2 u → pv_5_takeMark_42 Q2 x2 u → v_5_takeMark_42 Q3 x2 u := by
  intro a b R3 c3
  obtain ⟨R2, c2, b2⟩ := b
  exact a (fun r0 r1 => R2 r0 r1 → R3 r0 r1) (fun r0 r1 a b => c3 r0 r1 (cj_v_5_takeMark_42b (fun r0 r1 a b => a b) hQ a (c2 r0 r1 b))) b2
theorem pv_5_takeMark_42_i  {Q : iST → Prop} {x2 : Int} {u : iST} (I : Int → iST → Prop) (s : ∀ (x2 : Int) (u : iST), I x2 u → pv_5_takeMark_42b I Q x2 u) (h : I x2 u) : pv_5_takeMark_42 Q x2 u := ⟨I, s, h⟩
theorem mn_v_5_takeMark_42 {Q1 Q2 : iST → Prop}  {x2 : Int} {u : iST} (hQ : ∀ r0, Q1 r0 → Q2 r0) : pv_5_takeMark_42 Q1 x2 u → pv_5_takeMark_42 Q2 x2 u := fun ⟨R, s, h⟩ => ⟨R, fun r0 r1 a => mn_v_5_takeMark_42b (fun r0 r1 a => a) hQ (s r0 r1 a), h⟩
theorem un_v_5_takeMark_42  {Q : iST → Prop} {x2 : Int} {u : iST} : pv_5_takeMark_42 Q x2 u → pv_5_takeMark_42b (fun x2 u => pv_5_takeMark_42 Q x2 u) Q x2 u := fun ⟨R, s, h⟩ => mn_v_5_takeMark_42b (fun r0 r1 a => ⟨R, s, a⟩) (fun _ h => h) (s _ _ h)
theorem fo_v_5_takeMark_42  {Q : iST → Prop} {x2 : Int} {u : iST} : pv_5_takeMark_42b (fun x2 u => pv_5_takeMark_42 Q x2 u) Q x2 u → pv_5_takeMark_42 Q x2 u := fun h => ⟨fun x2 u => pv_5_takeMark_42b (fun x2 u => pv_5_takeMark_42 Q x2 u) Q x2 u, fun r0 r1 a => mn_v_5_takeMark_42b (fun r0 r1 a => un_v_5_takeMark_42 a) (fun _ h => h) a, h⟩
theorem wp_v_5_takeMark_42 {Q1 Q2 : iST → Prop}  {x2 : Int} {u : iST} (hQ : ∀ r0, Q1 r0 → Q2 r0) : v_5_takeMark_42 Q1 x2 u → pv_5_takeMark_42 Q2 x2 u := fun a => a (fun x2 u => pv_5_takeMark_42 Q2 x2 u) (fun x2 u b => fo_v_5_takeMark_42 (wp_v_5_takeMark_42b (fun r0 r1 a => a) hQ b))
def pv_5_takeMark (a0 : Int) (Q : iST → Prop) (u : iST) : Prop :=
  br (a0 ≠ 46) (
    br (a0 ≠ 41) (
      pv_5_takeMark_117 Q a0 u) (
      rd (u.1 17) (fun v8 => 
      br (v8 ≤ 0) (
        pv_5_takeMark_117 Q a0 u) (
        rd (u.1 17) (fun v9 => 
        bdp v9 41 (rd (u.2.1 25 v9) (fun v10 => 
        pv_5_takeMark_42 Q v10 u))))))) (
    rd (u.1 17) (fun v24 => 
    bdp v24 41 (sw (iA u 23 v24 3) (fun u => 
    Q u))))
theorem cj_v_5_takeMark {Q1 Q2 Q3 : iST → Prop}  {a0 : Int} {u : iST} (hQ : ∀ r0, Q1 r0 → Q2 r0 → Q3 r0) : v_5_takeMark a0 Q1 u → pv_5_takeMark a0 Q2 u → v_5_takeMark a0 Q3 u := (br_cj (br_cj (cj_v_5_takeMark_117  hQ) (rd_cj fun _ => (br_cj (cj_v_5_takeMark_117  hQ) (rd_cj fun _ => (bd_cj (rd_cj fun _ => (cj_v_5_takeMark_42  hQ))))))) (rd_cj fun _ => (bd_cj (sw_cj fun _ => (hQ _)))))
theorem mn_v_5_takeMark {Q1 Q2 : iST → Prop}  {a0 : Int} {u : iST} (hQ : ∀ r0, Q1 r0 → Q2 r0) : pv_5_takeMark a0 Q1 u → pv_5_takeMark a0 Q2 u := (br_mn (br_mn (mn_v_5_takeMark_117  hQ) (rd_mn fun _ => (br_mn (mn_v_5_takeMark_117  hQ) (rd_mn fun _ => (bd_mn (rd_mn fun _ => (mn_v_5_takeMark_42  hQ))))))) (rd_mn fun _ => (bd_mn (sw_mn fun _ => (hQ _)))))
theorem wp_v_5_takeMark {Q1 Q2 : iST → Prop}  {a0 : Int} {u : iST} (hQ : ∀ r0, Q1 r0 → Q2 r0) : v_5_takeMark a0 Q1 u → pv_5_takeMark a0 Q2 u := (br_wp (br_wp (wp_v_5_takeMark_117  hQ) (rd_wp fun _ => (br_wp (wp_v_5_takeMark_117  hQ) (rd_wp fun _ => (bd_wp (rd_wp fun _ => (wp_v_5_takeMark_42  hQ))))))) (rd_wp fun _ => (bd_wp (sw_wp fun _ => (hQ _)))))
def pv_5_takeWord_164 (Q : Int → iST → Prop) (x2 : Int) (x4 : Int) (x5 : Int) (x6 : Int) (x8 : Int) (u : iST) : Prop :=
  rd (u.1 19) (fun v4 => 
  br (v4 < 1000) (
    rd (u.1 19) (fun v5 => 
    ovp (v5 + 1) (
    sw (iI u 19 (v5 + 1)) (fun u => 
    br (x6 = 0) (
      pv_5_takeMark x4 (fun u => 
      Q x5 u) u) (
      pv_7_made x8 (fun v8 u => 
      pv_5_deliver v8 (fun u => 
      Q x5 u) u) u))))) (
    pv_5_refuse 5 x2 (fun u => 
    Q x5 u) u))
theorem cj_v_5_takeWord_164 {Q1 Q2 Q3 : Int → iST → Prop}  {x2 : Int} {x4 : Int} {x5 : Int} {x6 : Int} {x8 : Int} {u : iST} (hQ : ∀ r0 r1, Q1 r0 r1 → Q2 r0 r1 → Q3 r0 r1) : v_5_takeWord_164 Q1 x2 x4 x5 x6 x8 u → pv_5_takeWord_164 Q2 x2 x4 x5 x6 x8 u → v_5_takeWord_164 Q3 x2 x4 x5 x6 x8 u := (rd_cj fun _ => (br_cj (rd_cj fun _ => (ov_cj (sw_cj fun _ => (br_cj (cj_v_5_takeMark (fun _ => (hQ _ _))) (cj_v_7_made (fun _ _ => (cj_v_5_deliver (fun _ => (hQ _ _))))))))) (cj_v_5_refuse (fun _ => (hQ _ _)))))
theorem mn_v_5_takeWord_164 {Q1 Q2 : Int → iST → Prop}  {x2 : Int} {x4 : Int} {x5 : Int} {x6 : Int} {x8 : Int} {u : iST} (hQ : ∀ r0 r1, Q1 r0 r1 → Q2 r0 r1) : pv_5_takeWord_164 Q1 x2 x4 x5 x6 x8 u → pv_5_takeWord_164 Q2 x2 x4 x5 x6 x8 u := (rd_mn fun _ => (br_mn (rd_mn fun _ => (ov_mn (sw_mn fun _ => (br_mn (mn_v_5_takeMark (fun _ => (hQ _ _))) (mn_v_7_made (fun _ _ => (mn_v_5_deliver (fun _ => (hQ _ _))))))))) (mn_v_5_refuse (fun _ => (hQ _ _)))))
theorem wp_v_5_takeWord_164 {Q1 Q2 : Int → iST → Prop}  {x2 : Int} {x4 : Int} {x5 : Int} {x6 : Int} {x8 : Int} {u : iST} (hQ : ∀ r0 r1, Q1 r0 r1 → Q2 r0 r1) : v_5_takeWord_164 Q1 x2 x4 x5 x6 x8 u → pv_5_takeWord_164 Q2 x2 x4 x5 x6 x8 u := (rd_wp fun _ => (br_wp (rd_wp fun _ => (ov_wp (sw_wp fun _ => (br_wp (wp_v_5_takeMark (fun _ => (hQ _ _))) (wp_v_7_made (fun _ _ => (wp_v_5_deliver (fun _ => (hQ _ _))))))))) (wp_v_5_refuse (fun _ => (hQ _ _)))))
def pv_5_takeWord_123 (Q : Int → iST → Prop) (x2 : Int) (x4 : Int) (x5 : Int) (x6 : Int) (x7 : Int) (x8 : Int) (u : iST) : Prop :=
  pv_5_canStand x4 (fun v3 u => 
  br (v3 ≠ 0) (
    br (x7 = 0) (
      pv_5_takeWord_164 Q x2 x4 x5 x6 x8 u) (
      rd (u.1 17) (fun v11 => 
      br (v11 < 40) (
        pv_5_takeWord_164 Q x2 x4 x5 x6 x8 u) (
        pv_5_refuse 4 x2 (fun u => 
        Q x5 u) u)))) (
    pv_5_refuse 3 x2 (fun u => 
    Q x5 u) u)) u
theorem cj_v_5_takeWord_123 {Q1 Q2 Q3 : Int → iST → Prop}  {x2 : Int} {x4 : Int} {x5 : Int} {x6 : Int} {x7 : Int} {x8 : Int} {u : iST} (hQ : ∀ r0 r1, Q1 r0 r1 → Q2 r0 r1 → Q3 r0 r1) : v_5_takeWord_123 Q1 x2 x4 x5 x6 x7 x8 u → pv_5_takeWord_123 Q2 x2 x4 x5 x6 x7 x8 u → v_5_takeWord_123 Q3 x2 x4 x5 x6 x7 x8 u := (cj_v_5_canStand (fun _ _ => (br_cj (br_cj (cj_v_5_takeWord_164  hQ) (rd_cj fun _ => (br_cj (cj_v_5_takeWord_164  hQ) (cj_v_5_refuse (fun _ => (hQ _ _)))))) (cj_v_5_refuse (fun _ => (hQ _ _))))))
theorem mn_v_5_takeWord_123 {Q1 Q2 : Int → iST → Prop}  {x2 : Int} {x4 : Int} {x5 : Int} {x6 : Int} {x7 : Int} {x8 : Int} {u : iST} (hQ : ∀ r0 r1, Q1 r0 r1 → Q2 r0 r1) : pv_5_takeWord_123 Q1 x2 x4 x5 x6 x7 x8 u → pv_5_takeWord_123 Q2 x2 x4 x5 x6 x7 x8 u := (mn_v_5_canStand (fun _ _ => (br_mn (br_mn (mn_v_5_takeWord_164  hQ) (rd_mn fun _ => (br_mn (mn_v_5_takeWord_164  hQ) (mn_v_5_refuse (fun _ => (hQ _ _)))))) (mn_v_5_refuse (fun _ => (hQ _ _))))))
theorem wp_v_5_takeWord_123 {Q1 Q2 : Int → iST → Prop}  {x2 : Int} {x4 : Int} {x5 : Int} {x6 : Int} {x7 : Int} {x8 : Int} {u : iST} (hQ : ∀ r0 r1, Q1 r0 r1 → Q2 r0 r1) : v_5_takeWord_123 Q1 x2 x4 x5 x6 x7 x8 u → pv_5_takeWord_123 Q2 x2 x4 x5 x6 x7 x8 u := (wp_v_5_canStand (fun _ _ => (br_wp (br_wp (wp_v_5_takeWord_164  hQ) (rd_wp fun _ => (br_wp (wp_v_5_takeWord_164  hQ) (wp_v_5_refuse (fun _ => (hQ _ _)))))) (wp_v_5_refuse (fun _ => (hQ _ _))))))
def pv_5_takeWord_102 (Q : Int → iST → Prop) (x2 : Int) (x4 : Int) (x5 : Int) (x6 : Int) (x7 : Int) (x8 : Int) (u : iST) : Prop :=
  br (x6 = 0) (
    pv_5_takeWord_123 Q x2 x4 x5 x6 x7 x8 u) (
    br (0 ≤ x8) (
      pv_5_takeWord_123 Q x2 x4 x5 x6 x7 x8 u) (
      pv_5_refuse 2 x2 (fun u => 
      Q x5 u) u))
theorem cj_v_5_takeWord_102 {Q1 Q2 Q3 : Int → iST → Prop}  {x2 : Int} {x4 : Int} {x5 : Int} {x6 : Int} {x7 : Int} {x8 : Int} {u : iST} (hQ : ∀ r0 r1, Q1 r0 r1 → Q2 r0 r1 → Q3 r0 r1) : v_5_takeWord_102 Q1 x2 x4 x5 x6 x7 x8 u → pv_5_takeWord_102 Q2 x2 x4 x5 x6 x7 x8 u → v_5_takeWord_102 Q3 x2 x4 x5 x6 x7 x8 u := (br_cj (cj_v_5_takeWord_123  hQ) (br_cj (cj_v_5_takeWord_123  hQ) (cj_v_5_refuse (fun _ => (hQ _ _)))))
theorem mn_v_5_takeWord_102 {Q1 Q2 : Int → iST → Prop}  {x2 : Int} {x4 : Int} {x5 : Int} {x6 : Int} {x7 : Int} {x8 : Int} {u : iST} (hQ : ∀ r0 r1, Q1 r0 r1 → Q2 r0 r1) : pv_5_takeWord_102 Q1 x2 x4 x5 x6 x7 x8 u → pv_5_takeWord_102 Q2 x2 x4 x5 x6 x7 x8 u := (br_mn (mn_v_5_takeWord_123  hQ) (br_mn (mn_v_5_takeWord_123  hQ) (mn_v_5_refuse (fun _ => (hQ _ _)))))
theorem wp_v_5_takeWord_102 {Q1 Q2 : Int → iST → Prop}  {x2 : Int} {x4 : Int} {x5 : Int} {x6 : Int} {x7 : Int} {x8 : Int} {u : iST} (hQ : ∀ r0 r1, Q1 r0 r1 → Q2 r0 r1) : v_5_takeWord_102 Q1 x2 x4 x5 x6 x7 x8 u → pv_5_takeWord_102 Q2 x2 x4 x5 x6 x7 x8 u := (br_wp (wp_v_5_takeWord_123  hQ) (br_wp (wp_v_5_takeWord_123  hQ) (wp_v_5_refuse (fun _ => (hQ _ _)))))
def pv_5_takeWord_67 (Q : Int → iST → Prop) (x2 : Int) (x4 : Int) (x5 : Int) (x6 : Int) (x7 : Int) (y0 : Int) (u : iST) : Prop :=
  br (x6 ≠ 0) (
    pv_5_takeWord_102 Q x2 x4 x5 x6 x7 y0 u) (
    br (x7 ≠ 0) (
      pv_5_takeWord_102 Q x2 x4 x5 x6 x7 y0 u) (
      br (x4 = 41) (
        pv_5_takeWord_102 Q x2 x4 x5 x6 x7 y0 u) (
        br (x4 = 46) (
          pv_5_takeWord_102 Q x2 x4 x5 x6 x7 y0 u) (
          pv_5_refuse 1 x2 (fun u => 
          Q x5 u) u))))
theorem cj_v_5_takeWord_67 {Q1 Q2 Q3 : Int → iST → Prop}  {x2 : Int} {x4 : Int} {x5 : Int} {x6 : Int} {x7 : Int} {y0 : Int} {u : iST} (hQ : ∀ r0 r1, Q1 r0 r1 → Q2 r0 r1 → Q3 r0 r1) : v_5_takeWord_67 Q1 x2 x4 x5 x6 x7 y0 u → pv_5_takeWord_67 Q2 x2 x4 x5 x6 x7 y0 u → v_5_takeWord_67 Q3 x2 x4 x5 x6 x7 y0 u := (br_cj (cj_v_5_takeWord_102  hQ) (br_cj (cj_v_5_takeWord_102  hQ) (br_cj (cj_v_5_takeWord_102  hQ) (br_cj (cj_v_5_takeWord_102  hQ) (cj_v_5_refuse (fun _ => (hQ _ _)))))))
theorem mn_v_5_takeWord_67 {Q1 Q2 : Int → iST → Prop}  {x2 : Int} {x4 : Int} {x5 : Int} {x6 : Int} {x7 : Int} {y0 : Int} {u : iST} (hQ : ∀ r0 r1, Q1 r0 r1 → Q2 r0 r1) : pv_5_takeWord_67 Q1 x2 x4 x5 x6 x7 y0 u → pv_5_takeWord_67 Q2 x2 x4 x5 x6 x7 y0 u := (br_mn (mn_v_5_takeWord_102  hQ) (br_mn (mn_v_5_takeWord_102  hQ) (br_mn (mn_v_5_takeWord_102  hQ) (br_mn (mn_v_5_takeWord_102  hQ) (mn_v_5_refuse (fun _ => (hQ _ _)))))))
theorem wp_v_5_takeWord_67 {Q1 Q2 : Int → iST → Prop}  {x2 : Int} {x4 : Int} {x5 : Int} {x6 : Int} {x7 : Int} {y0 : Int} {u : iST} (hQ : ∀ r0 r1, Q1 r0 r1 → Q2 r0 r1) : v_5_takeWord_67 Q1 x2 x4 x5 x6 x7 y0 u → pv_5_takeWord_67 Q2 x2 x4 x5 x6 x7 y0 u := (br_wp (wp_v_5_takeWord_102  hQ) (br_wp (wp_v_5_takeWord_102  hQ) (br_wp (wp_v_5_takeWord_102  hQ) (br_wp (wp_v_5_takeWord_102  hQ) (wp_v_5_refuse (fun _ => (hQ _ _)))))))
def pv_5_takeWord_46 (Q : Int → iST → Prop) (x2 : Int) (x4 : Int) (x5 : Int) (x6 : Int) (y0 : Int) (u : iST) : Prop :=
  br (x6 = 0) (
    pv_5_takeWord_67 Q x2 x4 x5 x6 y0 (-1) u) (
    pv_5_atomCell x2 x5 (fun v16 u => 
    pv_5_takeWord_67 Q x2 x4 x5 x6 y0 v16 u) u)
theorem cj_v_5_takeWord_46 {Q1 Q2 Q3 : Int → iST → Prop}  {x2 : Int} {x4 : Int} {x5 : Int} {x6 : Int} {y0 : Int} {u : iST} (hQ : ∀ r0 r1, Q1 r0 r1 → Q2 r0 r1 → Q3 r0 r1) : v_5_takeWord_46 Q1 x2 x4 x5 x6 y0 u → pv_5_takeWord_46 Q2 x2 x4 x5 x6 y0 u → v_5_takeWord_46 Q3 x2 x4 x5 x6 y0 u := (br_cj (cj_v_5_takeWord_67  hQ) (cj_v_5_atomCell (fun _ _ => (cj_v_5_takeWord_67  hQ))))
theorem mn_v_5_takeWord_46 {Q1 Q2 : Int → iST → Prop}  {x2 : Int} {x4 : Int} {x5 : Int} {x6 : Int} {y0 : Int} {u : iST} (hQ : ∀ r0 r1, Q1 r0 r1 → Q2 r0 r1) : pv_5_takeWord_46 Q1 x2 x4 x5 x6 y0 u → pv_5_takeWord_46 Q2 x2 x4 x5 x6 y0 u := (br_mn (mn_v_5_takeWord_67  hQ) (mn_v_5_atomCell (fun _ _ => (mn_v_5_takeWord_67  hQ))))
theorem wp_v_5_takeWord_46 {Q1 Q2 : Int → iST → Prop}  {x2 : Int} {x4 : Int} {x5 : Int} {x6 : Int} {y0 : Int} {u : iST} (hQ : ∀ r0 r1, Q1 r0 r1 → Q2 r0 r1) : v_5_takeWord_46 Q1 x2 x4 x5 x6 y0 u → pv_5_takeWord_46 Q2 x2 x4 x5 x6 y0 u := (br_wp (wp_v_5_takeWord_67  hQ) (wp_v_5_atomCell (fun _ _ => (wp_v_5_takeWord_67  hQ))))
def pv_5_takeWord_41 (Q : Int → iST → Prop) (x2 : Int) (x4 : Int) (x5 : Int) (x6 : Int) (u : iST) : Prop :=
  pv_5_takeWord_46 Q x2 x4 x5 x6 1 u
theorem cj_v_5_takeWord_41 {Q1 Q2 Q3 : Int → iST → Prop}  {x2 : Int} {x4 : Int} {x5 : Int} {x6 : Int} {u : iST} (hQ : ∀ r0 r1, Q1 r0 r1 → Q2 r0 r1 → Q3 r0 r1) : v_5_takeWord_41 Q1 x2 x4 x5 x6 u → pv_5_takeWord_41 Q2 x2 x4 x5 x6 u → v_5_takeWord_41 Q3 x2 x4 x5 x6 u := (cj_v_5_takeWord_46  hQ)
theorem mn_v_5_takeWord_41 {Q1 Q2 : Int → iST → Prop}  {x2 : Int} {x4 : Int} {x5 : Int} {x6 : Int} {u : iST} (hQ : ∀ r0 r1, Q1 r0 r1 → Q2 r0 r1) : pv_5_takeWord_41 Q1 x2 x4 x5 x6 u → pv_5_takeWord_41 Q2 x2 x4 x5 x6 u := (mn_v_5_takeWord_46  hQ)
theorem wp_v_5_takeWord_41 {Q1 Q2 : Int → iST → Prop}  {x2 : Int} {x4 : Int} {x5 : Int} {x6 : Int} {u : iST} (hQ : ∀ r0 r1, Q1 r0 r1 → Q2 r0 r1) : v_5_takeWord_41 Q1 x2 x4 x5 x6 u → pv_5_takeWord_41 Q2 x2 x4 x5 x6 u := (wp_v_5_takeWord_46  hQ)
def pv_5_takeWord_25 (Q : Int → iST → Prop) (x2 : Int) (x4 : Int) (x5 : Int) (y0 : Int) (u : iST) : Prop :=
  br (x4 = 40) (
    pv_5_takeWord_41 Q x2 x4 x5 y0 u) (
    br (x4 ≠ 39) (
      pv_5_takeWord_46 Q x2 x4 x5 y0 0 u) (
      pv_5_takeWord_41 Q x2 x4 x5 y0 u))
theorem cj_v_5_takeWord_25 {Q1 Q2 Q3 : Int → iST → Prop}  {x2 : Int} {x4 : Int} {x5 : Int} {y0 : Int} {u : iST} (hQ : ∀ r0 r1, Q1 r0 r1 → Q2 r0 r1 → Q3 r0 r1) : v_5_takeWord_25 Q1 x2 x4 x5 y0 u → pv_5_takeWord_25 Q2 x2 x4 x5 y0 u → v_5_takeWord_25 Q3 x2 x4 x5 y0 u := (br_cj (cj_v_5_takeWord_41  hQ) (br_cj (cj_v_5_takeWord_46  hQ) (cj_v_5_takeWord_41  hQ)))
theorem mn_v_5_takeWord_25 {Q1 Q2 : Int → iST → Prop}  {x2 : Int} {x4 : Int} {x5 : Int} {y0 : Int} {u : iST} (hQ : ∀ r0 r1, Q1 r0 r1 → Q2 r0 r1) : pv_5_takeWord_25 Q1 x2 x4 x5 y0 u → pv_5_takeWord_25 Q2 x2 x4 x5 y0 u := (br_mn (mn_v_5_takeWord_41  hQ) (br_mn (mn_v_5_takeWord_46  hQ) (mn_v_5_takeWord_41  hQ)))
theorem wp_v_5_takeWord_25 {Q1 Q2 : Int → iST → Prop}  {x2 : Int} {x4 : Int} {x5 : Int} {y0 : Int} {u : iST} (hQ : ∀ r0 r1, Q1 r0 r1 → Q2 r0 r1) : v_5_takeWord_25 Q1 x2 x4 x5 y0 u → pv_5_takeWord_25 Q2 x2 x4 x5 y0 u := (br_wp (wp_v_5_takeWord_41  hQ) (br_wp (wp_v_5_takeWord_46  hQ) (wp_v_5_takeWord_41  hQ)))
def pv_5_takeWord (a1 : Int) (a2 : Int) (Q : Int → iST → Prop) (u : iST) : Prop :=
  bdp a1 3000 (rh (u.2.1 44 a1) (fun v1 => 
  pv_5_atomEnd a1 a2 (fun v2 u => 
  br (v2 ≤ a1) (
    pv_5_takeWord_25 Q a1 v1 v2 0 u) (
    pv_5_takeWord_25 Q a1 v1 v2 1 u)) u))
theorem cj_v_5_takeWord {Q1 Q2 Q3 : Int → iST → Prop}  {a1 : Int} {a2 : Int} {u : iST} (hQ : ∀ r0 r1, Q1 r0 r1 → Q2 r0 r1 → Q3 r0 r1) : v_5_takeWord a1 a2 Q1 u → pv_5_takeWord a1 a2 Q2 u → v_5_takeWord a1 a2 Q3 u := (bd_cj (rh_cj fun _ => (cj_v_5_atomEnd (fun _ _ => (br_cj (cj_v_5_takeWord_25  hQ) (cj_v_5_takeWord_25  hQ))))))
theorem mn_v_5_takeWord {Q1 Q2 : Int → iST → Prop}  {a1 : Int} {a2 : Int} {u : iST} (hQ : ∀ r0 r1, Q1 r0 r1 → Q2 r0 r1) : pv_5_takeWord a1 a2 Q1 u → pv_5_takeWord a1 a2 Q2 u := (bd_mn (rh_mn fun _ => (mn_v_5_atomEnd (fun _ _ => (br_mn (mn_v_5_takeWord_25  hQ) (mn_v_5_takeWord_25  hQ))))))
theorem wp_v_5_takeWord {Q1 Q2 : Int → iST → Prop}  {a1 : Int} {a2 : Int} {u : iST} (hQ : ∀ r0 r1, Q1 r0 r1 → Q2 r0 r1) : v_5_takeWord a1 a2 Q1 u → pv_5_takeWord a1 a2 Q2 u := (bd_wp (rh_wp fun _ => (wp_v_5_atomEnd (fun _ _ => (br_wp (wp_v_5_takeWord_25  hQ) (wp_v_5_takeWord_25  hQ))))))
def pv_5_read_143 (Q : Int → iST → Prop) (u : iST) : Prop :=
  rd (u.1 20) (fun v2 => 
  Q v2 u)
theorem cj_v_5_read_143 {Q1 Q2 Q3 : Int → iST → Prop}  {u : iST} (hQ : ∀ r0 r1, Q1 r0 r1 → Q2 r0 r1 → Q3 r0 r1) : v_5_read_143 Q1 u → pv_5_read_143 Q2 u → v_5_read_143 Q3 u := (rd_cj fun _ => (hQ _ _))
theorem mn_v_5_read_143 {Q1 Q2 : Int → iST → Prop}  {u : iST} (hQ : ∀ r0 r1, Q1 r0 r1 → Q2 r0 r1) : pv_5_read_143 Q1 u → pv_5_read_143 Q2 u := (rd_mn fun _ => (hQ _ _))
theorem wp_v_5_read_143 {Q1 Q2 : Int → iST → Prop}  {u : iST} (hQ : ∀ r0 r1, Q1 r0 r1 → Q2 r0 r1) : v_5_read_143 Q1 u → pv_5_read_143 Q2 u := (rd_wp fun _ => (hQ _ _))
def pv_5_read_119 (Q : Int → iST → Prop) (x2 : Int) (u : iST) : Prop :=
  rd (u.1 21) (fun v1 => 
  br (v1 ≠ 0) (
    pv_5_read_143 Q u) (
    bdp 0 41 (rd (u.2.1 23 0) (fun v3 => 
    br (v3 = 6) (
      pv_5_read_143 Q u) (
      pv_5_refuse 3 x2 (fun u => 
      pv_5_read_143 Q u) u)))))
theorem cj_v_5_read_119 {Q1 Q2 Q3 : Int → iST → Prop}  {x2 : Int} {u : iST} (hQ : ∀ r0 r1, Q1 r0 r1 → Q2 r0 r1 → Q3 r0 r1) : v_5_read_119 Q1 x2 u → pv_5_read_119 Q2 x2 u → v_5_read_119 Q3 x2 u := (rd_cj fun _ => (br_cj (cj_v_5_read_143  hQ) (bd_cj (rd_cj fun _ => (br_cj (cj_v_5_read_143  hQ) (cj_v_5_refuse (fun _ => (cj_v_5_read_143  hQ))))))))
theorem mn_v_5_read_119 {Q1 Q2 : Int → iST → Prop}  {x2 : Int} {u : iST} (hQ : ∀ r0 r1, Q1 r0 r1 → Q2 r0 r1) : pv_5_read_119 Q1 x2 u → pv_5_read_119 Q2 x2 u := (rd_mn fun _ => (br_mn (mn_v_5_read_143  hQ) (bd_mn (rd_mn fun _ => (br_mn (mn_v_5_read_143  hQ) (mn_v_5_refuse (fun _ => (mn_v_5_read_143  hQ))))))))
theorem wp_v_5_read_119 {Q1 Q2 : Int → iST → Prop}  {x2 : Int} {u : iST} (hQ : ∀ r0 r1, Q1 r0 r1 → Q2 r0 r1) : v_5_read_119 Q1 x2 u → pv_5_read_119 Q2 x2 u := (rd_wp fun _ => (br_wp (wp_v_5_read_143  hQ) (bd_wp (rd_wp fun _ => (br_wp (wp_v_5_read_143  hQ) (wp_v_5_refuse (fun _ => (wp_v_5_read_143  hQ))))))))
def pv_5_read_107 (R39 : Int → Int → iST → Prop) (Q : Int → iST → Prop) (x2 : Int) (x3 : Int) (x4 : Int) (u : iST) : Prop :=
  ovp (x3 + 1) (
  rd (if (x3 + 1) < x4 then x4 else (x3 + 1)) (fun v10 => 
  R39 x2 v10 u))
theorem cj_v_5_read_107 {Q1 Q2 Q3 : Int → iST → Prop} {R391 R392 R393 : Int → Int → iST → Prop} {x2 : Int} {x3 : Int} {x4 : Int} {u : iST} (hR39 : ∀ r0 r1 r2, R391 r0 r1 r2 → R392 r0 r1 r2 → R393 r0 r1 r2) (hQ : ∀ r0 r1, Q1 r0 r1 → Q2 r0 r1 → Q3 r0 r1) : v_5_read_107 R391 Q1 x2 x3 x4 u → pv_5_read_107 R392 Q2 x2 x3 x4 u → v_5_read_107 R393 Q3 x2 x3 x4 u := (ov_cj (rd_cj fun _ => (hR39 _ _ _)))
theorem mn_v_5_read_107 {Q1 Q2 : Int → iST → Prop} {R391 R392 : Int → Int → iST → Prop} {x2 : Int} {x3 : Int} {x4 : Int} {u : iST} (hR39 : ∀ r0 r1 r2, R391 r0 r1 r2 → R392 r0 r1 r2) (hQ : ∀ r0 r1, Q1 r0 r1 → Q2 r0 r1) : pv_5_read_107 R391 Q1 x2 x3 x4 u → pv_5_read_107 R392 Q2 x2 x3 x4 u := (ov_mn (rd_mn fun _ => (hR39 _ _ _)))
theorem wp_v_5_read_107 {Q1 Q2 : Int → iST → Prop} {R391 R392 : Int → Int → iST → Prop} {x2 : Int} {x3 : Int} {x4 : Int} {u : iST} (hR39 : ∀ r0 r1 r2, R391 r0 r1 r2 → R392 r0 r1 r2) (hQ : ∀ r0 r1, Q1 r0 r1 → Q2 r0 r1) : v_5_read_107 R391 Q1 x2 x3 x4 u → pv_5_read_107 R392 Q2 x2 x3 x4 u := (ov_wp (rd_wp fun _ => (hR39 _ _ _)))
def pv_5_read_39b (R39 : Int → Int → iST → Prop) (Q : Int → iST → Prop) (x2 : Int) (x3 : Int) (u : iST) : Prop :=
  br (x2 ≤ x3) (
    pv_5_read_119 Q x2 u) (
    br (3000 ≤ x3) (
      pv_5_read_119 Q x2 u) (
      rd (u.1 21) (fun v5 => 
      br (v5 ≠ 0) (
        pv_5_read_119 Q x2 u) (
        ovp (x3 + 1) (
        bdp x3 3000 (rh (u.2.1 44 x3) (fun v7 => 
        br (v7 ≠ 59) (
          bdp x3 3000 (rh (u.2.1 44 x3) (fun v8 => 
          br (v8 = 32) (
            pv_5_read_107 R39 Q x2 x3 (x3 + 1) u) (
            bdp x3 3000 (rh (u.2.1 44 x3) (fun v11 => 
            br (v11 = 10) (
              pv_5_read_107 R39 Q x2 x3 (x3 + 1) u) (
              pv_5_takeWord x3 x2 (fun v12 u => 
              pv_5_read_107 R39 Q x2 x3 v12 u) u))))))) (
          pv_5_lineEnd x3 x2 (fun v13 u => 
          pv_5_read_107 R39 Q x2 x3 v13 u) u))))))))
theorem cj_v_5_read_39b {Q1 Q2 Q3 : Int → iST → Prop} {R391 R392 R393 : Int → Int → iST → Prop} {x2 : Int} {x3 : Int} {u : iST} (hR39 : ∀ r0 r1 r2, R391 r0 r1 r2 → R392 r0 r1 r2 → R393 r0 r1 r2) (hQ : ∀ r0 r1, Q1 r0 r1 → Q2 r0 r1 → Q3 r0 r1) : v_5_read_39b R391 Q1 x2 x3 u → pv_5_read_39b R392 Q2 x2 x3 u → v_5_read_39b R393 Q3 x2 x3 u := (br_cj (cj_v_5_read_119  hQ) (br_cj (cj_v_5_read_119  hQ) (rd_cj fun _ => (br_cj (cj_v_5_read_119  hQ) (ov_cj (bd_cj (rh_cj fun _ => (br_cj (bd_cj (rh_cj fun _ => (br_cj (cj_v_5_read_107 hR39 hQ) (bd_cj (rh_cj fun _ => (br_cj (cj_v_5_read_107 hR39 hQ) (cj_v_5_takeWord (fun _ _ => (cj_v_5_read_107 hR39 hQ))))))))) (cj_v_5_lineEnd (fun _ _ => (cj_v_5_read_107 hR39 hQ)))))))))))
theorem mn_v_5_read_39b {Q1 Q2 : Int → iST → Prop} {R391 R392 : Int → Int → iST → Prop} {x2 : Int} {x3 : Int} {u : iST} (hR39 : ∀ r0 r1 r2, R391 r0 r1 r2 → R392 r0 r1 r2) (hQ : ∀ r0 r1, Q1 r0 r1 → Q2 r0 r1) : pv_5_read_39b R391 Q1 x2 x3 u → pv_5_read_39b R392 Q2 x2 x3 u := (br_mn (mn_v_5_read_119  hQ) (br_mn (mn_v_5_read_119  hQ) (rd_mn fun _ => (br_mn (mn_v_5_read_119  hQ) (ov_mn (bd_mn (rh_mn fun _ => (br_mn (bd_mn (rh_mn fun _ => (br_mn (mn_v_5_read_107 hR39 hQ) (bd_mn (rh_mn fun _ => (br_mn (mn_v_5_read_107 hR39 hQ) (mn_v_5_takeWord (fun _ _ => (mn_v_5_read_107 hR39 hQ))))))))) (mn_v_5_lineEnd (fun _ _ => (mn_v_5_read_107 hR39 hQ)))))))))))
theorem wp_v_5_read_39b {Q1 Q2 : Int → iST → Prop} {R391 R392 : Int → Int → iST → Prop} {x2 : Int} {x3 : Int} {u : iST} (hR39 : ∀ r0 r1 r2, R391 r0 r1 r2 → R392 r0 r1 r2) (hQ : ∀ r0 r1, Q1 r0 r1 → Q2 r0 r1) : v_5_read_39b R391 Q1 x2 x3 u → pv_5_read_39b R392 Q2 x2 x3 u := (br_wp (wp_v_5_read_119  hQ) (br_wp (wp_v_5_read_119  hQ) (rd_wp fun _ => (br_wp (wp_v_5_read_119  hQ) (ov_wp (bd_wp (rh_wp fun _ => (br_wp (bd_wp (rh_wp fun _ => (br_wp (wp_v_5_read_107 hR39 hQ) (bd_wp (rh_wp fun _ => (br_wp (wp_v_5_read_107 hR39 hQ) (wp_v_5_takeWord (fun _ _ => (wp_v_5_read_107 hR39 hQ))))))))) (wp_v_5_lineEnd (fun _ _ => (wp_v_5_read_107 hR39 hQ)))))))))))
def pv_5_read_39 (Q : Int → iST → Prop) (x2 : Int) (x3 : Int) (u : iST) : Prop := ∃ R39 : Int → Int → iST → Prop, (∀ (x2 : Int) (x3 : Int) (u : iST), R39 x2 x3 u → pv_5_read_39b R39 Q x2 x3 u) ∧ R39 x2 x3 u
theorem cj_v_5_read_39 {Q1 Q2 Q3 : Int → iST → Prop}  {x2 : Int} {x3 : Int} {u : iST} (hQ : ∀ r0 r1, Q1 r0 r1 → Q2 r0 r1 → Q3 r0 r1) : v_5_read_39 Q1 x2 x3 u → pv_5_read_39 Q2 x2 x3 u → v_5_read_39 Q3 x2 x3 u := by
  intro a b R3 c3
  obtain ⟨R2, c2, b2⟩ := b
  exact a (fun r0 r1 r2 => R2 r0 r1 r2 → R3 r0 r1 r2) (fun r0 r1 r2 a b => c3 r0 r1 r2 (cj_v_5_read_39b (fun r0 r1 r2 a b => a b) hQ a (c2 r0 r1 r2 b))) b2
theorem pv_5_read_39_i  {Q : Int → iST → Prop} {x2 : Int} {x3 : Int} {u : iST} (I : Int → Int → iST → Prop) (s : ∀ (x2 : Int) (x3 : Int) (u : iST), I x2 x3 u → pv_5_read_39b I Q x2 x3 u) (h : I x2 x3 u) : pv_5_read_39 Q x2 x3 u := ⟨I, s, h⟩
theorem mn_v_5_read_39 {Q1 Q2 : Int → iST → Prop}  {x2 : Int} {x3 : Int} {u : iST} (hQ : ∀ r0 r1, Q1 r0 r1 → Q2 r0 r1) : pv_5_read_39 Q1 x2 x3 u → pv_5_read_39 Q2 x2 x3 u := fun ⟨R, s, h⟩ => ⟨R, fun r0 r1 r2 a => mn_v_5_read_39b (fun r0 r1 r2 a => a) hQ (s r0 r1 r2 a), h⟩
theorem un_v_5_read_39  {Q : Int → iST → Prop} {x2 : Int} {x3 : Int} {u : iST} : pv_5_read_39 Q x2 x3 u → pv_5_read_39b (fun x2 x3 u => pv_5_read_39 Q x2 x3 u) Q x2 x3 u := fun ⟨R, s, h⟩ => mn_v_5_read_39b (fun r0 r1 r2 a => ⟨R, s, a⟩) (fun _ _ h => h) (s _ _ _ h)
theorem fo_v_5_read_39  {Q : Int → iST → Prop} {x2 : Int} {x3 : Int} {u : iST} : pv_5_read_39b (fun x2 x3 u => pv_5_read_39 Q x2 x3 u) Q x2 x3 u → pv_5_read_39 Q x2 x3 u := fun h => ⟨fun x2 x3 u => pv_5_read_39b (fun x2 x3 u => pv_5_read_39 Q x2 x3 u) Q x2 x3 u, fun r0 r1 r2 a => mn_v_5_read_39b (fun r0 r1 r2 a => un_v_5_read_39 a) (fun _ _ h => h) a, h⟩
theorem wp_v_5_read_39 {Q1 Q2 : Int → iST → Prop}  {x2 : Int} {x3 : Int} {u : iST} (hQ : ∀ r0 r1, Q1 r0 r1 → Q2 r0 r1) : v_5_read_39 Q1 x2 x3 u → pv_5_read_39 Q2 x2 x3 u := fun a => a (fun x2 x3 u => pv_5_read_39 Q2 x2 x3 u) (fun x2 x3 u b => fo_v_5_read_39 (wp_v_5_read_39b (fun r0 r1 r2 a => a) hQ b))
def pv_5_read (a1 : Int) (Q : Int → iST → Prop) (u : iST) : Prop :=
  sw (iI u 17 0) (fun u => 
  sw (iI u 18 0) (fun u => 
  sw (iI u 19 0) (fun u => 
  sw (iI u 20 0) (fun u => 
  sw (iI u 21 0) (fun u => 
  sw (iI u 22 (-1)) (fun u => 
  bdp 0 41 (sw (iA u 23 0 0) (fun u => 
  pv_5_read_39 Q a1 0 u))))))))
theorem cj_v_5_read {Q1 Q2 Q3 : Int → iST → Prop}  {a1 : Int} {u : iST} (hQ : ∀ r0 r1, Q1 r0 r1 → Q2 r0 r1 → Q3 r0 r1) : v_5_read a1 Q1 u → pv_5_read a1 Q2 u → v_5_read a1 Q3 u := (sw_cj fun _ => (sw_cj fun _ => (sw_cj fun _ => (sw_cj fun _ => (sw_cj fun _ => (sw_cj fun _ => (bd_cj (sw_cj fun _ => (cj_v_5_read_39  hQ)))))))))
theorem mn_v_5_read {Q1 Q2 : Int → iST → Prop}  {a1 : Int} {u : iST} (hQ : ∀ r0 r1, Q1 r0 r1 → Q2 r0 r1) : pv_5_read a1 Q1 u → pv_5_read a1 Q2 u := (sw_mn fun _ => (sw_mn fun _ => (sw_mn fun _ => (sw_mn fun _ => (sw_mn fun _ => (sw_mn fun _ => (bd_mn (sw_mn fun _ => (mn_v_5_read_39  hQ)))))))))
theorem wp_v_5_read {Q1 Q2 : Int → iST → Prop}  {a1 : Int} {u : iST} (hQ : ∀ r0 r1, Q1 r0 r1 → Q2 r0 r1) : v_5_read a1 Q1 u → pv_5_read a1 Q2 u := (sw_wp fun _ => (sw_wp fun _ => (sw_wp fun _ => (sw_wp fun _ => (sw_wp fun _ => (sw_wp fun _ => (bd_wp (sw_wp fun _ => (wp_v_5_read_39  hQ)))))))))
def pv_6_begin (Q : iST → Prop) (u : iST) : Prop :=
  sw (iI u 26 0) (fun u => 
  rd (u.1 1) (fun v1 => 
  sw (iI u 25 v1) (fun u => 
  Q u)))
theorem cj_v_6_begin {Q1 Q2 Q3 : iST → Prop}  {u : iST} (hQ : ∀ r0, Q1 r0 → Q2 r0 → Q3 r0) : v_6_begin Q1 u → pv_6_begin Q2 u → v_6_begin Q3 u := (sw_cj fun _ => (rd_cj fun _ => (sw_cj fun _ => (hQ _))))
theorem mn_v_6_begin {Q1 Q2 : iST → Prop}  {u : iST} (hQ : ∀ r0, Q1 r0 → Q2 r0) : pv_6_begin Q1 u → pv_6_begin Q2 u := (sw_mn fun _ => (rd_mn fun _ => (sw_mn fun _ => (hQ _))))
theorem wp_v_6_begin {Q1 Q2 : iST → Prop}  {u : iST} (hQ : ∀ r0, Q1 r0 → Q2 r0) : v_6_begin Q1 u → pv_6_begin Q2 u := (sw_wp fun _ => (rd_wp fun _ => (sw_wp fun _ => (hQ _))))
def pv_6_doNotesHold_90 (Q : Int → iST → Prop) (x1 : Int) (u : iST) : Prop :=
  ztp 0 (sw (iI u 27 0) (fun u => 
  sw (iI u 28 0) (fun u => 
  ztp x1 (Q x1 u))))
theorem cj_v_6_doNotesHold_90 {Q1 Q2 Q3 : Int → iST → Prop}  {x1 : Int} {u : iST} (hQ : ∀ r0 r1, Q1 r0 r1 → Q2 r0 r1 → Q3 r0 r1) : v_6_doNotesHold_90 Q1 x1 u → pv_6_doNotesHold_90 Q2 x1 u → v_6_doNotesHold_90 Q3 x1 u := (zt_cj (sw_cj fun _ => (sw_cj fun _ => (zt_cj (hQ _ _)))))
theorem mn_v_6_doNotesHold_90 {Q1 Q2 : Int → iST → Prop}  {x1 : Int} {u : iST} (hQ : ∀ r0 r1, Q1 r0 r1 → Q2 r0 r1) : pv_6_doNotesHold_90 Q1 x1 u → pv_6_doNotesHold_90 Q2 x1 u := (zt_mn (sw_mn fun _ => (sw_mn fun _ => (zt_mn (hQ _ _)))))
theorem wp_v_6_doNotesHold_90 {Q1 Q2 : Int → iST → Prop}  {x1 : Int} {u : iST} (hQ : ∀ r0 r1, Q1 r0 r1 → Q2 r0 r1) : v_6_doNotesHold_90 Q1 x1 u → pv_6_doNotesHold_90 Q2 x1 u := (zt_wp (sw_wp fun _ => (sw_wp fun _ => (zt_wp (hQ _ _)))))
def pv_6_doNotesHold_9b (R9 : Int → Int → iST → Prop) (Q : Int → iST → Prop) (x1 : Int) (x2 : Int) (u : iST) : Prop :=
  rd (u.1 26) (fun v1 => 
  br (v1 ≤ x2) (
    pv_6_doNotesHold_90 Q x1 u) (
    br (x1 = 0) (
      pv_6_doNotesHold_90 Q x1 u) (
      ovp (x2 + 1) (
      sw (iI u 28 (x2 + 1)) (fun u => 
      bdp x2 1000 (
      bdp 0 5 (rd (u.2.1 52 (5 * x2 + 0)) (fun v5 => 
      bdp 1 5 (rd (u.2.1 52 (5 * x2 + 1)) (fun v6 => 
      bdp 2 5 (rd (u.2.1 52 (5 * x2 + 2)) (fun v7 => 
      pv_6_rewritten v5 v6 v7 (fun v8 u => 
      rd (u.1 32) (fun v9 => 
      br (v9 ≠ 0) (
        ovp (x2 + 1) (
        R9 0 (x2 + 1) u)) (
        bdp 3 5 (rd (u.2.1 52 (5 * x2 + 3)) (fun v11 => 
        br (v8 ≠ v11) (
          ovp (x2 + 1) (
          R9 0 (x2 + 1) u)) (
          rd (u.1 28) (fun v13 => 
          bdp 4 5 (rd (u.2.1 52 (5 * x2 + 4)) (fun v14 => 
          br (v13 ≠ v14) (
            ovp (x2 + 1) (
            R9 0 (x2 + 1) u)) (
            ovp (x2 + 1) (
            R9 1 (x2 + 1) u))))))))))) u))))))))))))
theorem cj_v_6_doNotesHold_9b {Q1 Q2 Q3 : Int → iST → Prop} {R91 R92 R93 : Int → Int → iST → Prop} {x1 : Int} {x2 : Int} {u : iST} (hR9 : ∀ r0 r1 r2, R91 r0 r1 r2 → R92 r0 r1 r2 → R93 r0 r1 r2) (hQ : ∀ r0 r1, Q1 r0 r1 → Q2 r0 r1 → Q3 r0 r1) : v_6_doNotesHold_9b R91 Q1 x1 x2 u → pv_6_doNotesHold_9b R92 Q2 x1 x2 u → v_6_doNotesHold_9b R93 Q3 x1 x2 u := (rd_cj fun _ => (br_cj (cj_v_6_doNotesHold_90  hQ) (br_cj (cj_v_6_doNotesHold_90  hQ) (ov_cj (sw_cj fun _ => (bd_cj (bd_cj (rd_cj fun _ => (bd_cj (rd_cj fun _ => (bd_cj (rd_cj fun _ => (cj_v_6_rewritten (fun _ _ => (rd_cj fun _ => (br_cj (ov_cj (hR9 _ _ _)) (bd_cj (rd_cj fun _ => (br_cj (ov_cj (hR9 _ _ _)) (rd_cj fun _ => (bd_cj (rd_cj fun _ => (br_cj (ov_cj (hR9 _ _ _)) (ov_cj (hR9 _ _ _)))))))))))))))))))))))))
theorem mn_v_6_doNotesHold_9b {Q1 Q2 : Int → iST → Prop} {R91 R92 : Int → Int → iST → Prop} {x1 : Int} {x2 : Int} {u : iST} (hR9 : ∀ r0 r1 r2, R91 r0 r1 r2 → R92 r0 r1 r2) (hQ : ∀ r0 r1, Q1 r0 r1 → Q2 r0 r1) : pv_6_doNotesHold_9b R91 Q1 x1 x2 u → pv_6_doNotesHold_9b R92 Q2 x1 x2 u := (rd_mn fun _ => (br_mn (mn_v_6_doNotesHold_90  hQ) (br_mn (mn_v_6_doNotesHold_90  hQ) (ov_mn (sw_mn fun _ => (bd_mn (bd_mn (rd_mn fun _ => (bd_mn (rd_mn fun _ => (bd_mn (rd_mn fun _ => (mn_v_6_rewritten (fun _ _ => (rd_mn fun _ => (br_mn (ov_mn (hR9 _ _ _)) (bd_mn (rd_mn fun _ => (br_mn (ov_mn (hR9 _ _ _)) (rd_mn fun _ => (bd_mn (rd_mn fun _ => (br_mn (ov_mn (hR9 _ _ _)) (ov_mn (hR9 _ _ _)))))))))))))))))))))))))
theorem wp_v_6_doNotesHold_9b {Q1 Q2 : Int → iST → Prop} {R91 R92 : Int → Int → iST → Prop} {x1 : Int} {x2 : Int} {u : iST} (hR9 : ∀ r0 r1 r2, R91 r0 r1 r2 → R92 r0 r1 r2) (hQ : ∀ r0 r1, Q1 r0 r1 → Q2 r0 r1) : v_6_doNotesHold_9b R91 Q1 x1 x2 u → pv_6_doNotesHold_9b R92 Q2 x1 x2 u := (rd_wp fun _ => (br_wp (wp_v_6_doNotesHold_90  hQ) (br_wp (wp_v_6_doNotesHold_90  hQ) (ov_wp (sw_wp fun _ => (bd_wp (bd_wp (rd_wp fun _ => (bd_wp (rd_wp fun _ => (bd_wp (rd_wp fun _ => (wp_v_6_rewritten (fun _ _ => (rd_wp fun _ => (br_wp (ov_wp (hR9 _ _ _)) (bd_wp (rd_wp fun _ => (br_wp (ov_wp (hR9 _ _ _)) (rd_wp fun _ => (bd_wp (rd_wp fun _ => (br_wp (ov_wp (hR9 _ _ _)) (ov_wp (hR9 _ _ _)))))))))))))))))))))))))
def pv_6_doNotesHold_9 (Q : Int → iST → Prop) (x1 : Int) (x2 : Int) (u : iST) : Prop := ∃ R9 : Int → Int → iST → Prop, (∀ (x1 : Int) (x2 : Int) (u : iST), R9 x1 x2 u → pv_6_doNotesHold_9b R9 Q x1 x2 u) ∧ R9 x1 x2 u
theorem cj_v_6_doNotesHold_9 {Q1 Q2 Q3 : Int → iST → Prop}  {x1 : Int} {x2 : Int} {u : iST} (hQ : ∀ r0 r1, Q1 r0 r1 → Q2 r0 r1 → Q3 r0 r1) : v_6_doNotesHold_9 Q1 x1 x2 u → pv_6_doNotesHold_9 Q2 x1 x2 u → v_6_doNotesHold_9 Q3 x1 x2 u := by
  intro a b R3 c3
  obtain ⟨R2, c2, b2⟩ := b
  exact a (fun r0 r1 r2 => R2 r0 r1 r2 → R3 r0 r1 r2) (fun r0 r1 r2 a b => c3 r0 r1 r2 (cj_v_6_doNotesHold_9b (fun r0 r1 r2 a b => a b) hQ a (c2 r0 r1 r2 b))) b2
theorem pv_6_doNotesHold_9_i  {Q : Int → iST → Prop} {x1 : Int} {x2 : Int} {u : iST} (I : Int → Int → iST → Prop) (s : ∀ (x1 : Int) (x2 : Int) (u : iST), I x1 x2 u → pv_6_doNotesHold_9b I Q x1 x2 u) (h : I x1 x2 u) : pv_6_doNotesHold_9 Q x1 x2 u := ⟨I, s, h⟩
theorem mn_v_6_doNotesHold_9 {Q1 Q2 : Int → iST → Prop}  {x1 : Int} {x2 : Int} {u : iST} (hQ : ∀ r0 r1, Q1 r0 r1 → Q2 r0 r1) : pv_6_doNotesHold_9 Q1 x1 x2 u → pv_6_doNotesHold_9 Q2 x1 x2 u := fun ⟨R, s, h⟩ => ⟨R, fun r0 r1 r2 a => mn_v_6_doNotesHold_9b (fun r0 r1 r2 a => a) hQ (s r0 r1 r2 a), h⟩
theorem un_v_6_doNotesHold_9  {Q : Int → iST → Prop} {x1 : Int} {x2 : Int} {u : iST} : pv_6_doNotesHold_9 Q x1 x2 u → pv_6_doNotesHold_9b (fun x1 x2 u => pv_6_doNotesHold_9 Q x1 x2 u) Q x1 x2 u := fun ⟨R, s, h⟩ => mn_v_6_doNotesHold_9b (fun r0 r1 r2 a => ⟨R, s, a⟩) (fun _ _ h => h) (s _ _ _ h)
theorem fo_v_6_doNotesHold_9  {Q : Int → iST → Prop} {x1 : Int} {x2 : Int} {u : iST} : pv_6_doNotesHold_9b (fun x1 x2 u => pv_6_doNotesHold_9 Q x1 x2 u) Q x1 x2 u → pv_6_doNotesHold_9 Q x1 x2 u := fun h => ⟨fun x1 x2 u => pv_6_doNotesHold_9b (fun x1 x2 u => pv_6_doNotesHold_9 Q x1 x2 u) Q x1 x2 u, fun r0 r1 r2 a => mn_v_6_doNotesHold_9b (fun r0 r1 r2 a => un_v_6_doNotesHold_9 a) (fun _ _ h => h) a, h⟩
theorem wp_v_6_doNotesHold_9 {Q1 Q2 : Int → iST → Prop}  {x1 : Int} {x2 : Int} {u : iST} (hQ : ∀ r0 r1, Q1 r0 r1 → Q2 r0 r1) : v_6_doNotesHold_9 Q1 x1 x2 u → pv_6_doNotesHold_9 Q2 x1 x2 u := fun a => a (fun x1 x2 u => pv_6_doNotesHold_9 Q2 x1 x2 u) (fun x1 x2 u b => fo_v_6_doNotesHold_9 (wp_v_6_doNotesHold_9b (fun r0 r1 r2 a => a) hQ b))
def pv_6_doNotesHold (Q : Int → iST → Prop) (u : iST) : Prop :=
  ztp 1 (sw (iI u 27 1) (fun u => 
  pv_6_doNotesHold_9 Q 1 0 u))
theorem cj_v_6_doNotesHold {Q1 Q2 Q3 : Int → iST → Prop}  {u : iST} (hQ : ∀ r0 r1, Q1 r0 r1 → Q2 r0 r1 → Q3 r0 r1) : v_6_doNotesHold Q1 u → pv_6_doNotesHold Q2 u → v_6_doNotesHold Q3 u := (zt_cj (sw_cj fun _ => (cj_v_6_doNotesHold_9  hQ)))
theorem mn_v_6_doNotesHold {Q1 Q2 : Int → iST → Prop}  {u : iST} (hQ : ∀ r0 r1, Q1 r0 r1 → Q2 r0 r1) : pv_6_doNotesHold Q1 u → pv_6_doNotesHold Q2 u := (zt_mn (sw_mn fun _ => (mn_v_6_doNotesHold_9  hQ)))
theorem wp_v_6_doNotesHold {Q1 Q2 : Int → iST → Prop}  {u : iST} (hQ : ∀ r0 r1, Q1 r0 r1 → Q2 r0 r1) : v_6_doNotesHold Q1 u → pv_6_doNotesHold Q2 u := (zt_wp (sw_wp fun _ => (wp_v_6_doNotesHold_9  hQ)))
def pv_6_addHypotheses_121 (R18 : Int → Int → Int → iST → Prop) (Q : iST → Prop) (x1 : Int) (x4 : Int) (x5 : Int) (x6 : Int) (x7 : Int) (u : iST) : Prop :=
  br (60 ≤ x7) (
    ovp (x5 + 1) (
    R18 x1 x4 (x5 + 1) u)) (
    bdp x1 60 (
    bdp x7 60 (sw (iA u 50 (60 * x1 + x7) x6) (fun u => 
    bdp x1 60 (rd (u.2.1 9 x1) (fun v8 => 
    ovp (v8 + 1) (
    bdp x1 60 (sw (iA u 9 x1 (v8 + 1)) (fun u => 
    ovp (x5 + 1) (
    R18 x1 x4 (x5 + 1) u))))))))))
theorem cj_v_6_addHypotheses_121 {Q1 Q2 Q3 : iST → Prop} {R181 R182 R183 : Int → Int → Int → iST → Prop} {x1 : Int} {x4 : Int} {x5 : Int} {x6 : Int} {x7 : Int} {u : iST} (hR18 : ∀ r0 r1 r2 r3, R181 r0 r1 r2 r3 → R182 r0 r1 r2 r3 → R183 r0 r1 r2 r3) (hQ : ∀ r0, Q1 r0 → Q2 r0 → Q3 r0) : v_6_addHypotheses_121 R181 Q1 x1 x4 x5 x6 x7 u → pv_6_addHypotheses_121 R182 Q2 x1 x4 x5 x6 x7 u → v_6_addHypotheses_121 R183 Q3 x1 x4 x5 x6 x7 u := (br_cj (ov_cj (hR18 _ _ _ _)) (bd_cj (bd_cj (sw_cj fun _ => (bd_cj (rd_cj fun _ => (ov_cj (bd_cj (sw_cj fun _ => (ov_cj (hR18 _ _ _ _)))))))))))
theorem mn_v_6_addHypotheses_121 {Q1 Q2 : iST → Prop} {R181 R182 : Int → Int → Int → iST → Prop} {x1 : Int} {x4 : Int} {x5 : Int} {x6 : Int} {x7 : Int} {u : iST} (hR18 : ∀ r0 r1 r2 r3, R181 r0 r1 r2 r3 → R182 r0 r1 r2 r3) (hQ : ∀ r0, Q1 r0 → Q2 r0) : pv_6_addHypotheses_121 R181 Q1 x1 x4 x5 x6 x7 u → pv_6_addHypotheses_121 R182 Q2 x1 x4 x5 x6 x7 u := (br_mn (ov_mn (hR18 _ _ _ _)) (bd_mn (bd_mn (sw_mn fun _ => (bd_mn (rd_mn fun _ => (ov_mn (bd_mn (sw_mn fun _ => (ov_mn (hR18 _ _ _ _)))))))))))
theorem wp_v_6_addHypotheses_121 {Q1 Q2 : iST → Prop} {R181 R182 : Int → Int → Int → iST → Prop} {x1 : Int} {x4 : Int} {x5 : Int} {x6 : Int} {x7 : Int} {u : iST} (hR18 : ∀ r0 r1 r2 r3, R181 r0 r1 r2 r3 → R182 r0 r1 r2 r3) (hQ : ∀ r0, Q1 r0 → Q2 r0) : v_6_addHypotheses_121 R181 Q1 x1 x4 x5 x6 x7 u → pv_6_addHypotheses_121 R182 Q2 x1 x4 x5 x6 x7 u := (br_wp (ov_wp (hR18 _ _ _ _)) (bd_wp (bd_wp (sw_wp fun _ => (bd_wp (rd_wp fun _ => (ov_wp (bd_wp (sw_wp fun _ => (ov_wp (hR18 _ _ _ _)))))))))))
def pv_6_addHypotheses_18b (R18 : Int → Int → Int → iST → Prop) (Q : iST → Prop) (x1 : Int) (x4 : Int) (x5 : Int) (u : iST) : Prop :=
  br (1000000 ≤ x5) (
    Q u) (
    br (x4 ≤ 0) (
      Q u) (
      ovp (x4 + (-1)) (
      bdp (x4 + (-1)) 128 (rd (u.2.1 41 (x4 + (-1))) (fun v2 => 
      bdp x1 60 (rd (u.2.1 9 x1) (fun v3 => 
      pv_7_isCallOf v2 3 (fun v4 u => 
      br (v4 = 0) (
        pv_6_addHypotheses_121 R18 Q x1 (x4 + (-1)) x5 v2 v3 u) (
        pv_7_item v2 3 (fun v11 u => 
        br (v11 ≠ 0) (
          pv_6_addHypotheses_121 R18 Q x1 (x4 + (-1)) x5 v2 v3 u) (
          ovp ((x4 + (-1)) + 1) (
          br (128 ≤ ((x4 + (-1)) + 1)) (
            pv_6_addHypotheses_121 R18 Q x1 (x4 + (-1)) x5 v2 v3 u) (
            pv_7_item v2 2 (fun v13 u => 
            bdp (x4 + (-1)) 128 (sw (iA u 41 (x4 + (-1)) v13) (fun u => 
            ovp ((x4 + (-1)) + 1) (
            pv_7_item v2 1 (fun v15 u => 
            bdp ((x4 + (-1)) + 1) 128 (sw (iA u 41 ((x4 + (-1)) + 1) v15) (fun u => 
            ovp ((x4 + (-1)) + 2) (
            ovp (x5 + 1) (
            R18 x1 ((x4 + (-1)) + 2) (x5 + 1) u))))) u)))) u)))) u)) u)))))))
theorem cj_v_6_addHypotheses_18b {Q1 Q2 Q3 : iST → Prop} {R181 R182 R183 : Int → Int → Int → iST → Prop} {x1 : Int} {x4 : Int} {x5 : Int} {u : iST} (hR18 : ∀ r0 r1 r2 r3, R181 r0 r1 r2 r3 → R182 r0 r1 r2 r3 → R183 r0 r1 r2 r3) (hQ : ∀ r0, Q1 r0 → Q2 r0 → Q3 r0) : v_6_addHypotheses_18b R181 Q1 x1 x4 x5 u → pv_6_addHypotheses_18b R182 Q2 x1 x4 x5 u → v_6_addHypotheses_18b R183 Q3 x1 x4 x5 u := (br_cj (hQ _) (br_cj (hQ _) (ov_cj (bd_cj (rd_cj fun _ => (bd_cj (rd_cj fun _ => (cj_v_7_isCallOf (fun _ _ => (br_cj (cj_v_6_addHypotheses_121 hR18 hQ) (cj_v_7_item (fun _ _ => (br_cj (cj_v_6_addHypotheses_121 hR18 hQ) (ov_cj (br_cj (cj_v_6_addHypotheses_121 hR18 hQ) (cj_v_7_item (fun _ _ => (bd_cj (sw_cj fun _ => (ov_cj (cj_v_7_item (fun _ _ => (bd_cj (sw_cj fun _ => (ov_cj (ov_cj (hR18 _ _ _ _)))))))))))))))))))))))))))
theorem mn_v_6_addHypotheses_18b {Q1 Q2 : iST → Prop} {R181 R182 : Int → Int → Int → iST → Prop} {x1 : Int} {x4 : Int} {x5 : Int} {u : iST} (hR18 : ∀ r0 r1 r2 r3, R181 r0 r1 r2 r3 → R182 r0 r1 r2 r3) (hQ : ∀ r0, Q1 r0 → Q2 r0) : pv_6_addHypotheses_18b R181 Q1 x1 x4 x5 u → pv_6_addHypotheses_18b R182 Q2 x1 x4 x5 u := (br_mn (hQ _) (br_mn (hQ _) (ov_mn (bd_mn (rd_mn fun _ => (bd_mn (rd_mn fun _ => (mn_v_7_isCallOf (fun _ _ => (br_mn (mn_v_6_addHypotheses_121 hR18 hQ) (mn_v_7_item (fun _ _ => (br_mn (mn_v_6_addHypotheses_121 hR18 hQ) (ov_mn (br_mn (mn_v_6_addHypotheses_121 hR18 hQ) (mn_v_7_item (fun _ _ => (bd_mn (sw_mn fun _ => (ov_mn (mn_v_7_item (fun _ _ => (bd_mn (sw_mn fun _ => (ov_mn (ov_mn (hR18 _ _ _ _)))))))))))))))))))))))))))
theorem wp_v_6_addHypotheses_18b {Q1 Q2 : iST → Prop} {R181 R182 : Int → Int → Int → iST → Prop} {x1 : Int} {x4 : Int} {x5 : Int} {u : iST} (hR18 : ∀ r0 r1 r2 r3, R181 r0 r1 r2 r3 → R182 r0 r1 r2 r3) (hQ : ∀ r0, Q1 r0 → Q2 r0) : v_6_addHypotheses_18b R181 Q1 x1 x4 x5 u → pv_6_addHypotheses_18b R182 Q2 x1 x4 x5 u := (br_wp (hQ _) (br_wp (hQ _) (ov_wp (bd_wp (rd_wp fun _ => (bd_wp (rd_wp fun _ => (wp_v_7_isCallOf (fun _ _ => (br_wp (wp_v_6_addHypotheses_121 hR18 hQ) (wp_v_7_item (fun _ _ => (br_wp (wp_v_6_addHypotheses_121 hR18 hQ) (ov_wp (br_wp (wp_v_6_addHypotheses_121 hR18 hQ) (wp_v_7_item (fun _ _ => (bd_wp (sw_wp fun _ => (ov_wp (wp_v_7_item (fun _ _ => (bd_wp (sw_wp fun _ => (ov_wp (ov_wp (hR18 _ _ _ _)))))))))))))))))))))))))))
def pv_6_addHypotheses_18 (Q : iST → Prop) (x1 : Int) (x4 : Int) (x5 : Int) (u : iST) : Prop := ∃ R18 : Int → Int → Int → iST → Prop, (∀ (x1 : Int) (x4 : Int) (x5 : Int) (u : iST), R18 x1 x4 x5 u → pv_6_addHypotheses_18b R18 Q x1 x4 x5 u) ∧ R18 x1 x4 x5 u
theorem cj_v_6_addHypotheses_18 {Q1 Q2 Q3 : iST → Prop}  {x1 : Int} {x4 : Int} {x5 : Int} {u : iST} (hQ : ∀ r0, Q1 r0 → Q2 r0 → Q3 r0) : v_6_addHypotheses_18 Q1 x1 x4 x5 u → pv_6_addHypotheses_18 Q2 x1 x4 x5 u → v_6_addHypotheses_18 Q3 x1 x4 x5 u := by
  intro a b R3 c3
  obtain ⟨R2, c2, b2⟩ := b
  exact a (fun r0 r1 r2 r3 => R2 r0 r1 r2 r3 → R3 r0 r1 r2 r3) (fun r0 r1 r2 r3 a b => c3 r0 r1 r2 r3 (cj_v_6_addHypotheses_18b (fun r0 r1 r2 r3 a b => a b) hQ a (c2 r0 r1 r2 r3 b))) b2
theorem pv_6_addHypotheses_18_i  {Q : iST → Prop} {x1 : Int} {x4 : Int} {x5 : Int} {u : iST} (I : Int → Int → Int → iST → Prop) (s : ∀ (x1 : Int) (x4 : Int) (x5 : Int) (u : iST), I x1 x4 x5 u → pv_6_addHypotheses_18b I Q x1 x4 x5 u) (h : I x1 x4 x5 u) : pv_6_addHypotheses_18 Q x1 x4 x5 u := ⟨I, s, h⟩
theorem mn_v_6_addHypotheses_18 {Q1 Q2 : iST → Prop}  {x1 : Int} {x4 : Int} {x5 : Int} {u : iST} (hQ : ∀ r0, Q1 r0 → Q2 r0) : pv_6_addHypotheses_18 Q1 x1 x4 x5 u → pv_6_addHypotheses_18 Q2 x1 x4 x5 u := fun ⟨R, s, h⟩ => ⟨R, fun r0 r1 r2 r3 a => mn_v_6_addHypotheses_18b (fun r0 r1 r2 r3 a => a) hQ (s r0 r1 r2 r3 a), h⟩
theorem un_v_6_addHypotheses_18  {Q : iST → Prop} {x1 : Int} {x4 : Int} {x5 : Int} {u : iST} : pv_6_addHypotheses_18 Q x1 x4 x5 u → pv_6_addHypotheses_18b (fun x1 x4 x5 u => pv_6_addHypotheses_18 Q x1 x4 x5 u) Q x1 x4 x5 u := fun ⟨R, s, h⟩ => mn_v_6_addHypotheses_18b (fun r0 r1 r2 r3 a => ⟨R, s, a⟩) (fun _ h => h) (s _ _ _ _ h)
theorem fo_v_6_addHypotheses_18  {Q : iST → Prop} {x1 : Int} {x4 : Int} {x5 : Int} {u : iST} : pv_6_addHypotheses_18b (fun x1 x4 x5 u => pv_6_addHypotheses_18 Q x1 x4 x5 u) Q x1 x4 x5 u → pv_6_addHypotheses_18 Q x1 x4 x5 u := fun h => ⟨fun x1 x4 x5 u => pv_6_addHypotheses_18b (fun x1 x4 x5 u => pv_6_addHypotheses_18 Q x1 x4 x5 u) Q x1 x4 x5 u, fun r0 r1 r2 r3 a => mn_v_6_addHypotheses_18b (fun r0 r1 r2 r3 a => un_v_6_addHypotheses_18 a) (fun _ h => h) a, h⟩
theorem wp_v_6_addHypotheses_18 {Q1 Q2 : iST → Prop}  {x1 : Int} {x4 : Int} {x5 : Int} {u : iST} (hQ : ∀ r0, Q1 r0 → Q2 r0) : v_6_addHypotheses_18 Q1 x1 x4 x5 u → pv_6_addHypotheses_18 Q2 x1 x4 x5 u := fun a => a (fun x1 x4 x5 u => pv_6_addHypotheses_18 Q2 x1 x4 x5 u) (fun x1 x4 x5 u b => fo_v_6_addHypotheses_18 (wp_v_6_addHypotheses_18b (fun r0 r1 r2 r3 a => a) hQ b))
def pv_6_addHypotheses (a0 : Int) (a1 : Int) (Q : iST → Prop) (u : iST) : Prop :=
  bdp 0 128 (sw (iA u 41 0 a1) (fun u => 
  pv_6_addHypotheses_18 Q a0 1 0 u))
theorem cj_v_6_addHypotheses {Q1 Q2 Q3 : iST → Prop}  {a0 : Int} {a1 : Int} {u : iST} (hQ : ∀ r0, Q1 r0 → Q2 r0 → Q3 r0) : v_6_addHypotheses a0 a1 Q1 u → pv_6_addHypotheses a0 a1 Q2 u → v_6_addHypotheses a0 a1 Q3 u := (bd_cj (sw_cj fun _ => (cj_v_6_addHypotheses_18  hQ)))
theorem mn_v_6_addHypotheses {Q1 Q2 : iST → Prop}  {a0 : Int} {a1 : Int} {u : iST} (hQ : ∀ r0, Q1 r0 → Q2 r0) : pv_6_addHypotheses a0 a1 Q1 u → pv_6_addHypotheses a0 a1 Q2 u := (bd_mn (sw_mn fun _ => (mn_v_6_addHypotheses_18  hQ)))
theorem wp_v_6_addHypotheses {Q1 Q2 : iST → Prop}  {a0 : Int} {a1 : Int} {u : iST} (hQ : ∀ r0, Q1 r0 → Q2 r0) : v_6_addHypotheses a0 a1 Q1 u → pv_6_addHypotheses a0 a1 Q2 u := (bd_wp (sw_wp fun _ => (wp_v_6_addHypotheses_18  hQ)))
def pv_10_bindVariablesOf_13b (R13 : Int → Int → iST → Prop) (Q : iST → Prop) (x2 : Int) (x3 : Int) (u : iST) : Prop :=
  br (x2 ≤ x3) (
    Q u) (
    bdp x3 128 (rd (u.2.1 43 x3) (fun v2 => 
    pv_7_isVariable v2 (fun v3 u => 
    br (v3 = 0) (
      ovp (x3 + 1) (
      R13 x2 (x3 + 1) u)) (
      bdp x3 128 (rd (u.2.1 43 x3) (fun v5 => 
      pv_10_standsFor v5 (fun v6 u => 
      br (v6 ≠ (-1)) (
        ovp (x3 + 1) (
        R13 x2 (x3 + 1) u)) (
        bdp x3 128 (rd (u.2.1 43 x3) (fun v8 => 
        bdp x3 128 (rd (u.2.1 43 x3) (fun v9 => 
        pv_10_bind v8 v9 (fun u => 
        ovp (x3 + 1) (
        R13 x2 (x3 + 1) u)) u)))))) u)))) u)))
theorem cj_v_10_bindVariablesOf_13b {Q1 Q2 Q3 : iST → Prop} {R131 R132 R133 : Int → Int → iST → Prop} {x2 : Int} {x3 : Int} {u : iST} (hR13 : ∀ r0 r1 r2, R131 r0 r1 r2 → R132 r0 r1 r2 → R133 r0 r1 r2) (hQ : ∀ r0, Q1 r0 → Q2 r0 → Q3 r0) : v_10_bindVariablesOf_13b R131 Q1 x2 x3 u → pv_10_bindVariablesOf_13b R132 Q2 x2 x3 u → v_10_bindVariablesOf_13b R133 Q3 x2 x3 u := (br_cj (hQ _) (bd_cj (rd_cj fun _ => (cj_v_7_isVariable (fun _ _ => (br_cj (ov_cj (hR13 _ _ _)) (bd_cj (rd_cj fun _ => (cj_v_10_standsFor (fun _ _ => (br_cj (ov_cj (hR13 _ _ _)) (bd_cj (rd_cj fun _ => (bd_cj (rd_cj fun _ => (cj_v_10_bind (fun _ => (ov_cj (hR13 _ _ _)))))))))))))))))))
theorem mn_v_10_bindVariablesOf_13b {Q1 Q2 : iST → Prop} {R131 R132 : Int → Int → iST → Prop} {x2 : Int} {x3 : Int} {u : iST} (hR13 : ∀ r0 r1 r2, R131 r0 r1 r2 → R132 r0 r1 r2) (hQ : ∀ r0, Q1 r0 → Q2 r0) : pv_10_bindVariablesOf_13b R131 Q1 x2 x3 u → pv_10_bindVariablesOf_13b R132 Q2 x2 x3 u := (br_mn (hQ _) (bd_mn (rd_mn fun _ => (mn_v_7_isVariable (fun _ _ => (br_mn (ov_mn (hR13 _ _ _)) (bd_mn (rd_mn fun _ => (mn_v_10_standsFor (fun _ _ => (br_mn (ov_mn (hR13 _ _ _)) (bd_mn (rd_mn fun _ => (bd_mn (rd_mn fun _ => (mn_v_10_bind (fun _ => (ov_mn (hR13 _ _ _)))))))))))))))))))
theorem wp_v_10_bindVariablesOf_13b {Q1 Q2 : iST → Prop} {R131 R132 : Int → Int → iST → Prop} {x2 : Int} {x3 : Int} {u : iST} (hR13 : ∀ r0 r1 r2, R131 r0 r1 r2 → R132 r0 r1 r2) (hQ : ∀ r0, Q1 r0 → Q2 r0) : v_10_bindVariablesOf_13b R131 Q1 x2 x3 u → pv_10_bindVariablesOf_13b R132 Q2 x2 x3 u := (br_wp (hQ _) (bd_wp (rd_wp fun _ => (wp_v_7_isVariable (fun _ _ => (br_wp (ov_wp (hR13 _ _ _)) (bd_wp (rd_wp fun _ => (wp_v_10_standsFor (fun _ _ => (br_wp (ov_wp (hR13 _ _ _)) (bd_wp (rd_wp fun _ => (bd_wp (rd_wp fun _ => (wp_v_10_bind (fun _ => (ov_wp (hR13 _ _ _)))))))))))))))))))
def pv_10_bindVariablesOf_13 (Q : iST → Prop) (x2 : Int) (x3 : Int) (u : iST) : Prop := ∃ R13 : Int → Int → iST → Prop, (∀ (x2 : Int) (x3 : Int) (u : iST), R13 x2 x3 u → pv_10_bindVariablesOf_13b R13 Q x2 x3 u) ∧ R13 x2 x3 u
theorem cj_v_10_bindVariablesOf_13 {Q1 Q2 Q3 : iST → Prop}  {x2 : Int} {x3 : Int} {u : iST} (hQ : ∀ r0, Q1 r0 → Q2 r0 → Q3 r0) : v_10_bindVariablesOf_13 Q1 x2 x3 u → pv_10_bindVariablesOf_13 Q2 x2 x3 u → v_10_bindVariablesOf_13 Q3 x2 x3 u := by
  intro a b R3 c3
  obtain ⟨R2, c2, b2⟩ := b
  exact a (fun r0 r1 r2 => R2 r0 r1 r2 → R3 r0 r1 r2) (fun r0 r1 r2 a b => c3 r0 r1 r2 (cj_v_10_bindVariablesOf_13b (fun r0 r1 r2 a b => a b) hQ a (c2 r0 r1 r2 b))) b2
theorem pv_10_bindVariablesOf_13_i  {Q : iST → Prop} {x2 : Int} {x3 : Int} {u : iST} (I : Int → Int → iST → Prop) (s : ∀ (x2 : Int) (x3 : Int) (u : iST), I x2 x3 u → pv_10_bindVariablesOf_13b I Q x2 x3 u) (h : I x2 x3 u) : pv_10_bindVariablesOf_13 Q x2 x3 u := ⟨I, s, h⟩
theorem mn_v_10_bindVariablesOf_13 {Q1 Q2 : iST → Prop}  {x2 : Int} {x3 : Int} {u : iST} (hQ : ∀ r0, Q1 r0 → Q2 r0) : pv_10_bindVariablesOf_13 Q1 x2 x3 u → pv_10_bindVariablesOf_13 Q2 x2 x3 u := fun ⟨R, s, h⟩ => ⟨R, fun r0 r1 r2 a => mn_v_10_bindVariablesOf_13b (fun r0 r1 r2 a => a) hQ (s r0 r1 r2 a), h⟩
theorem un_v_10_bindVariablesOf_13  {Q : iST → Prop} {x2 : Int} {x3 : Int} {u : iST} : pv_10_bindVariablesOf_13 Q x2 x3 u → pv_10_bindVariablesOf_13b (fun x2 x3 u => pv_10_bindVariablesOf_13 Q x2 x3 u) Q x2 x3 u := fun ⟨R, s, h⟩ => mn_v_10_bindVariablesOf_13b (fun r0 r1 r2 a => ⟨R, s, a⟩) (fun _ h => h) (s _ _ _ h)
theorem fo_v_10_bindVariablesOf_13  {Q : iST → Prop} {x2 : Int} {x3 : Int} {u : iST} : pv_10_bindVariablesOf_13b (fun x2 x3 u => pv_10_bindVariablesOf_13 Q x2 x3 u) Q x2 x3 u → pv_10_bindVariablesOf_13 Q x2 x3 u := fun h => ⟨fun x2 x3 u => pv_10_bindVariablesOf_13b (fun x2 x3 u => pv_10_bindVariablesOf_13 Q x2 x3 u) Q x2 x3 u, fun r0 r1 r2 a => mn_v_10_bindVariablesOf_13b (fun r0 r1 r2 a => un_v_10_bindVariablesOf_13 a) (fun _ h => h) a, h⟩
theorem wp_v_10_bindVariablesOf_13 {Q1 Q2 : iST → Prop}  {x2 : Int} {x3 : Int} {u : iST} (hQ : ∀ r0, Q1 r0 → Q2 r0) : v_10_bindVariablesOf_13 Q1 x2 x3 u → pv_10_bindVariablesOf_13 Q2 x2 x3 u := fun a => a (fun x2 x3 u => pv_10_bindVariablesOf_13 Q2 x2 x3 u) (fun x2 x3 u b => fo_v_10_bindVariablesOf_13 (wp_v_10_bindVariablesOf_13b (fun r0 r1 r2 a => a) hQ b))
def pv_10_bindVariablesOf (a0 : Int) (Q : iST → Prop) (u : iST) : Prop :=
  sw (iI u 39 0) (fun u => 
  pv_10_listParts a0 (fun v1 u => 
  pv_10_bindVariablesOf_13 Q v1 0 u) u)
theorem cj_v_10_bindVariablesOf {Q1 Q2 Q3 : iST → Prop}  {a0 : Int} {u : iST} (hQ : ∀ r0, Q1 r0 → Q2 r0 → Q3 r0) : v_10_bindVariablesOf a0 Q1 u → pv_10_bindVariablesOf a0 Q2 u → v_10_bindVariablesOf a0 Q3 u := (sw_cj fun _ => (cj_v_10_listParts (fun _ _ => (cj_v_10_bindVariablesOf_13  hQ))))
theorem mn_v_10_bindVariablesOf {Q1 Q2 : iST → Prop}  {a0 : Int} {u : iST} (hQ : ∀ r0, Q1 r0 → Q2 r0) : pv_10_bindVariablesOf a0 Q1 u → pv_10_bindVariablesOf a0 Q2 u := (sw_mn fun _ => (mn_v_10_listParts (fun _ _ => (mn_v_10_bindVariablesOf_13  hQ))))
theorem wp_v_10_bindVariablesOf {Q1 Q2 : iST → Prop}  {a0 : Int} {u : iST} (hQ : ∀ r0, Q1 r0 → Q2 r0) : v_10_bindVariablesOf a0 Q1 u → pv_10_bindVariablesOf a0 Q2 u := (sw_wp fun _ => (wp_v_10_listParts (fun _ _ => (wp_v_10_bindVariablesOf_13  hQ))))
def pv_10_hasBound_67 (R11 : Int → Int → Int → iST → Prop) (Q : Int → iST → Prop) (x2 : Int) (x3 : Int) (x4 : Int) (x5 : Int) (u : iST) : Prop :=
  br (x5 = 0) (
    ovp (x3 + 0) (
    ovp (x4 + 1) (
    R11 x2 (x3 + 0) (x4 + 1) u))) (
    ovp (x3 + 1) (
    ovp (x4 + 1) (
    R11 x2 (x3 + 1) (x4 + 1) u)))
theorem cj_v_10_hasBound_67 {Q1 Q2 Q3 : Int → iST → Prop} {R111 R112 R113 : Int → Int → Int → iST → Prop} {x2 : Int} {x3 : Int} {x4 : Int} {x5 : Int} {u : iST} (hR11 : ∀ r0 r1 r2 r3, R111 r0 r1 r2 r3 → R112 r0 r1 r2 r3 → R113 r0 r1 r2 r3) (hQ : ∀ r0 r1, Q1 r0 r1 → Q2 r0 r1 → Q3 r0 r1) : v_10_hasBound_67 R111 Q1 x2 x3 x4 x5 u → pv_10_hasBound_67 R112 Q2 x2 x3 x4 x5 u → v_10_hasBound_67 R113 Q3 x2 x3 x4 x5 u := (br_cj (ov_cj (ov_cj (hR11 _ _ _ _))) (ov_cj (ov_cj (hR11 _ _ _ _))))
theorem mn_v_10_hasBound_67 {Q1 Q2 : Int → iST → Prop} {R111 R112 : Int → Int → Int → iST → Prop} {x2 : Int} {x3 : Int} {x4 : Int} {x5 : Int} {u : iST} (hR11 : ∀ r0 r1 r2 r3, R111 r0 r1 r2 r3 → R112 r0 r1 r2 r3) (hQ : ∀ r0 r1, Q1 r0 r1 → Q2 r0 r1) : pv_10_hasBound_67 R111 Q1 x2 x3 x4 x5 u → pv_10_hasBound_67 R112 Q2 x2 x3 x4 x5 u := (br_mn (ov_mn (ov_mn (hR11 _ _ _ _))) (ov_mn (ov_mn (hR11 _ _ _ _))))
theorem wp_v_10_hasBound_67 {Q1 Q2 : Int → iST → Prop} {R111 R112 : Int → Int → Int → iST → Prop} {x2 : Int} {x3 : Int} {x4 : Int} {x5 : Int} {u : iST} (hR11 : ∀ r0 r1 r2 r3, R111 r0 r1 r2 r3 → R112 r0 r1 r2 r3) (hQ : ∀ r0 r1, Q1 r0 r1 → Q2 r0 r1) : v_10_hasBound_67 R111 Q1 x2 x3 x4 x5 u → pv_10_hasBound_67 R112 Q2 x2 x3 x4 x5 u := (br_wp (ov_wp (ov_wp (hR11 _ _ _ _))) (ov_wp (ov_wp (hR11 _ _ _ _))))
def pv_10_hasBound_26b (R11 : Int → Int → Int → iST → Prop) (R26 : Int → Int → Int → Int → Int → iST → Prop) (Q : Int → iST → Prop) (x2 : Int) (x3 : Int) (x4 : Int) (x5 : Int) (x6 : Int) (u : iST) : Prop :=
  br (x2 ≤ x6) (
    pv_10_hasBound_67 R11 Q x2 x3 x4 x5 u) (
    br (x5 ≠ 0) (
      pv_10_hasBound_67 R11 Q x2 x3 x4 x5 u) (
      bdp x6 128 (rd (u.2.1 43 x6) (fun v8 => 
      bdp x4 256 (rd (u.2.1 35 x4) (fun v9 => 
      br (v8 ≠ v9) (
        ovp (x6 + 1) (
        R26 x2 x3 x4 0 (x6 + 1) u)) (
        ovp (x6 + 1) (
        R26 x2 x3 x4 1 (x6 + 1) u))))))))
theorem cj_v_10_hasBound_26b {Q1 Q2 Q3 : Int → iST → Prop} {R111 R112 R113 : Int → Int → Int → iST → Prop} {R261 R262 R263 : Int → Int → Int → Int → Int → iST → Prop} {x2 : Int} {x3 : Int} {x4 : Int} {x5 : Int} {x6 : Int} {u : iST} (hR11 : ∀ r0 r1 r2 r3, R111 r0 r1 r2 r3 → R112 r0 r1 r2 r3 → R113 r0 r1 r2 r3) (hR26 : ∀ r0 r1 r2 r3 r4 r5, R261 r0 r1 r2 r3 r4 r5 → R262 r0 r1 r2 r3 r4 r5 → R263 r0 r1 r2 r3 r4 r5) (hQ : ∀ r0 r1, Q1 r0 r1 → Q2 r0 r1 → Q3 r0 r1) : v_10_hasBound_26b R111 R261 Q1 x2 x3 x4 x5 x6 u → pv_10_hasBound_26b R112 R262 Q2 x2 x3 x4 x5 x6 u → v_10_hasBound_26b R113 R263 Q3 x2 x3 x4 x5 x6 u := (br_cj (cj_v_10_hasBound_67 hR11 hQ) (br_cj (cj_v_10_hasBound_67 hR11 hQ) (bd_cj (rd_cj fun _ => (bd_cj (rd_cj fun _ => (br_cj (ov_cj (hR26 _ _ _ _ _ _)) (ov_cj (hR26 _ _ _ _ _ _)))))))))
theorem mn_v_10_hasBound_26b {Q1 Q2 : Int → iST → Prop} {R111 R112 : Int → Int → Int → iST → Prop} {R261 R262 : Int → Int → Int → Int → Int → iST → Prop} {x2 : Int} {x3 : Int} {x4 : Int} {x5 : Int} {x6 : Int} {u : iST} (hR11 : ∀ r0 r1 r2 r3, R111 r0 r1 r2 r3 → R112 r0 r1 r2 r3) (hR26 : ∀ r0 r1 r2 r3 r4 r5, R261 r0 r1 r2 r3 r4 r5 → R262 r0 r1 r2 r3 r4 r5) (hQ : ∀ r0 r1, Q1 r0 r1 → Q2 r0 r1) : pv_10_hasBound_26b R111 R261 Q1 x2 x3 x4 x5 x6 u → pv_10_hasBound_26b R112 R262 Q2 x2 x3 x4 x5 x6 u := (br_mn (mn_v_10_hasBound_67 hR11 hQ) (br_mn (mn_v_10_hasBound_67 hR11 hQ) (bd_mn (rd_mn fun _ => (bd_mn (rd_mn fun _ => (br_mn (ov_mn (hR26 _ _ _ _ _ _)) (ov_mn (hR26 _ _ _ _ _ _)))))))))
theorem wp_v_10_hasBound_26b {Q1 Q2 : Int → iST → Prop} {R111 R112 : Int → Int → Int → iST → Prop} {R261 R262 : Int → Int → Int → Int → Int → iST → Prop} {x2 : Int} {x3 : Int} {x4 : Int} {x5 : Int} {x6 : Int} {u : iST} (hR11 : ∀ r0 r1 r2 r3, R111 r0 r1 r2 r3 → R112 r0 r1 r2 r3) (hR26 : ∀ r0 r1 r2 r3 r4 r5, R261 r0 r1 r2 r3 r4 r5 → R262 r0 r1 r2 r3 r4 r5) (hQ : ∀ r0 r1, Q1 r0 r1 → Q2 r0 r1) : v_10_hasBound_26b R111 R261 Q1 x2 x3 x4 x5 x6 u → pv_10_hasBound_26b R112 R262 Q2 x2 x3 x4 x5 x6 u := (br_wp (wp_v_10_hasBound_67 hR11 hQ) (br_wp (wp_v_10_hasBound_67 hR11 hQ) (bd_wp (rd_wp fun _ => (bd_wp (rd_wp fun _ => (br_wp (ov_wp (hR26 _ _ _ _ _ _)) (ov_wp (hR26 _ _ _ _ _ _)))))))))
def pv_10_hasBound_26 (R11 : Int → Int → Int → iST → Prop) (Q : Int → iST → Prop) (x2 : Int) (x3 : Int) (x4 : Int) (x5 : Int) (x6 : Int) (u : iST) : Prop := ∃ R26 : Int → Int → Int → Int → Int → iST → Prop, (∀ (x2 : Int) (x3 : Int) (x4 : Int) (x5 : Int) (x6 : Int) (u : iST), R26 x2 x3 x4 x5 x6 u → pv_10_hasBound_26b R11 R26 Q x2 x3 x4 x5 x6 u) ∧ R26 x2 x3 x4 x5 x6 u
theorem cj_v_10_hasBound_26 {Q1 Q2 Q3 : Int → iST → Prop} {R111 R112 R113 : Int → Int → Int → iST → Prop} {x2 : Int} {x3 : Int} {x4 : Int} {x5 : Int} {x6 : Int} {u : iST} (hR11 : ∀ r0 r1 r2 r3, R111 r0 r1 r2 r3 → R112 r0 r1 r2 r3 → R113 r0 r1 r2 r3) (hQ : ∀ r0 r1, Q1 r0 r1 → Q2 r0 r1 → Q3 r0 r1) : v_10_hasBound_26 R111 Q1 x2 x3 x4 x5 x6 u → pv_10_hasBound_26 R112 Q2 x2 x3 x4 x5 x6 u → v_10_hasBound_26 R113 Q3 x2 x3 x4 x5 x6 u := by
  intro a b R3 c3
  obtain ⟨R2, c2, b2⟩ := b
  exact a (fun r0 r1 r2 r3 r4 r5 => R2 r0 r1 r2 r3 r4 r5 → R3 r0 r1 r2 r3 r4 r5) (fun r0 r1 r2 r3 r4 r5 a b => c3 r0 r1 r2 r3 r4 r5 (cj_v_10_hasBound_26b hR11 (fun r0 r1 r2 r3 r4 r5 a b => a b) hQ a (c2 r0 r1 r2 r3 r4 r5 b))) b2
theorem pv_10_hasBound_26_i {R11 : Int → Int → Int → iST → Prop} {Q : Int → iST → Prop} {x2 : Int} {x3 : Int} {x4 : Int} {x5 : Int} {x6 : Int} {u : iST} (I : Int → Int → Int → Int → Int → iST → Prop) (s : ∀ (x2 : Int) (x3 : Int) (x4 : Int) (x5 : Int) (x6 : Int) (u : iST), I x2 x3 x4 x5 x6 u → pv_10_hasBound_26b R11 I Q x2 x3 x4 x5 x6 u) (h : I x2 x3 x4 x5 x6 u) : pv_10_hasBound_26 R11 Q x2 x3 x4 x5 x6 u := ⟨I, s, h⟩
theorem mn_v_10_hasBound_26 {Q1 Q2 : Int → iST → Prop} {R111 R112 : Int → Int → Int → iST → Prop} {x2 : Int} {x3 : Int} {x4 : Int} {x5 : Int} {x6 : Int} {u : iST} (hR11 : ∀ r0 r1 r2 r3, R111 r0 r1 r2 r3 → R112 r0 r1 r2 r3) (hQ : ∀ r0 r1, Q1 r0 r1 → Q2 r0 r1) : pv_10_hasBound_26 R111 Q1 x2 x3 x4 x5 x6 u → pv_10_hasBound_26 R112 Q2 x2 x3 x4 x5 x6 u := fun ⟨R, s, h⟩ => ⟨R, fun r0 r1 r2 r3 r4 r5 a => mn_v_10_hasBound_26b hR11 (fun r0 r1 r2 r3 r4 r5 a => a) hQ (s r0 r1 r2 r3 r4 r5 a), h⟩
theorem un_v_10_hasBound_26 {R11 : Int → Int → Int → iST → Prop} {Q : Int → iST → Prop} {x2 : Int} {x3 : Int} {x4 : Int} {x5 : Int} {x6 : Int} {u : iST} : pv_10_hasBound_26 R11 Q x2 x3 x4 x5 x6 u → pv_10_hasBound_26b R11 (fun x2 x3 x4 x5 x6 u => pv_10_hasBound_26 R11 Q x2 x3 x4 x5 x6 u) Q x2 x3 x4 x5 x6 u := fun ⟨R, s, h⟩ => mn_v_10_hasBound_26b (fun _ _ _ _ h => h) (fun r0 r1 r2 r3 r4 r5 a => ⟨R, s, a⟩) (fun _ _ h => h) (s _ _ _ _ _ _ h)
theorem fo_v_10_hasBound_26 {R11 : Int → Int → Int → iST → Prop} {Q : Int → iST → Prop} {x2 : Int} {x3 : Int} {x4 : Int} {x5 : Int} {x6 : Int} {u : iST} : pv_10_hasBound_26b R11 (fun x2 x3 x4 x5 x6 u => pv_10_hasBound_26 R11 Q x2 x3 x4 x5 x6 u) Q x2 x3 x4 x5 x6 u → pv_10_hasBound_26 R11 Q x2 x3 x4 x5 x6 u := fun h => ⟨fun x2 x3 x4 x5 x6 u => pv_10_hasBound_26b R11 (fun x2 x3 x4 x5 x6 u => pv_10_hasBound_26 R11 Q x2 x3 x4 x5 x6 u) Q x2 x3 x4 x5 x6 u, fun r0 r1 r2 r3 r4 r5 a => mn_v_10_hasBound_26b (fun _ _ _ _ h => h) (fun r0 r1 r2 r3 r4 r5 a => un_v_10_hasBound_26 a) (fun _ _ h => h) a, h⟩
theorem wp_v_10_hasBound_26 {Q1 Q2 : Int → iST → Prop} {R111 R112 : Int → Int → Int → iST → Prop} {x2 : Int} {x3 : Int} {x4 : Int} {x5 : Int} {x6 : Int} {u : iST} (hR11 : ∀ r0 r1 r2 r3, R111 r0 r1 r2 r3 → R112 r0 r1 r2 r3) (hQ : ∀ r0 r1, Q1 r0 r1 → Q2 r0 r1) : v_10_hasBound_26 R111 Q1 x2 x3 x4 x5 x6 u → pv_10_hasBound_26 R112 Q2 x2 x3 x4 x5 x6 u := fun a => a (fun x2 x3 x4 x5 x6 u => pv_10_hasBound_26 R112 Q2 x2 x3 x4 x5 x6 u) (fun x2 x3 x4 x5 x6 u b => fo_v_10_hasBound_26 (wp_v_10_hasBound_26b hR11 (fun r0 r1 r2 r3 r4 r5 a => a) hQ b))
def pv_10_hasBound_11b (R11 : Int → Int → Int → iST → Prop) (Q : Int → iST → Prop) (x2 : Int) (x3 : Int) (x4 : Int) (u : iST) : Prop :=
  rd (u.1 39) (fun v2 => 
  br (v2 ≤ x4) (
    rd (u.1 39) (fun v3 => 
    br (x3 ≠ v3) (
      ztp 0 (Q 0 u)) (
      ztp 1 (Q 1 u)))) (
    pv_10_hasBound_26 R11 Q x2 x3 x4 0 0 u))
theorem cj_v_10_hasBound_11b {Q1 Q2 Q3 : Int → iST → Prop} {R111 R112 R113 : Int → Int → Int → iST → Prop} {x2 : Int} {x3 : Int} {x4 : Int} {u : iST} (hR11 : ∀ r0 r1 r2 r3, R111 r0 r1 r2 r3 → R112 r0 r1 r2 r3 → R113 r0 r1 r2 r3) (hQ : ∀ r0 r1, Q1 r0 r1 → Q2 r0 r1 → Q3 r0 r1) : v_10_hasBound_11b R111 Q1 x2 x3 x4 u → pv_10_hasBound_11b R112 Q2 x2 x3 x4 u → v_10_hasBound_11b R113 Q3 x2 x3 x4 u := (rd_cj fun _ => (br_cj (rd_cj fun _ => (br_cj (zt_cj (hQ _ _)) (zt_cj (hQ _ _)))) (cj_v_10_hasBound_26 hR11 hQ)))
theorem mn_v_10_hasBound_11b {Q1 Q2 : Int → iST → Prop} {R111 R112 : Int → Int → Int → iST → Prop} {x2 : Int} {x3 : Int} {x4 : Int} {u : iST} (hR11 : ∀ r0 r1 r2 r3, R111 r0 r1 r2 r3 → R112 r0 r1 r2 r3) (hQ : ∀ r0 r1, Q1 r0 r1 → Q2 r0 r1) : pv_10_hasBound_11b R111 Q1 x2 x3 x4 u → pv_10_hasBound_11b R112 Q2 x2 x3 x4 u := (rd_mn fun _ => (br_mn (rd_mn fun _ => (br_mn (zt_mn (hQ _ _)) (zt_mn (hQ _ _)))) (mn_v_10_hasBound_26 hR11 hQ)))
theorem wp_v_10_hasBound_11b {Q1 Q2 : Int → iST → Prop} {R111 R112 : Int → Int → Int → iST → Prop} {x2 : Int} {x3 : Int} {x4 : Int} {u : iST} (hR11 : ∀ r0 r1 r2 r3, R111 r0 r1 r2 r3 → R112 r0 r1 r2 r3) (hQ : ∀ r0 r1, Q1 r0 r1 → Q2 r0 r1) : v_10_hasBound_11b R111 Q1 x2 x3 x4 u → pv_10_hasBound_11b R112 Q2 x2 x3 x4 u := (rd_wp fun _ => (br_wp (rd_wp fun _ => (br_wp (zt_wp (hQ _ _)) (zt_wp (hQ _ _)))) (wp_v_10_hasBound_26 hR11 hQ)))
def pv_10_hasBound_11 (Q : Int → iST → Prop) (x2 : Int) (x3 : Int) (x4 : Int) (u : iST) : Prop := ∃ R11 : Int → Int → Int → iST → Prop, (∀ (x2 : Int) (x3 : Int) (x4 : Int) (u : iST), R11 x2 x3 x4 u → pv_10_hasBound_11b R11 Q x2 x3 x4 u) ∧ R11 x2 x3 x4 u
theorem cj_v_10_hasBound_11 {Q1 Q2 Q3 : Int → iST → Prop}  {x2 : Int} {x3 : Int} {x4 : Int} {u : iST} (hQ : ∀ r0 r1, Q1 r0 r1 → Q2 r0 r1 → Q3 r0 r1) : v_10_hasBound_11 Q1 x2 x3 x4 u → pv_10_hasBound_11 Q2 x2 x3 x4 u → v_10_hasBound_11 Q3 x2 x3 x4 u := by
  intro a b R3 c3
  obtain ⟨R2, c2, b2⟩ := b
  exact a (fun r0 r1 r2 r3 => R2 r0 r1 r2 r3 → R3 r0 r1 r2 r3) (fun r0 r1 r2 r3 a b => c3 r0 r1 r2 r3 (cj_v_10_hasBound_11b (fun r0 r1 r2 r3 a b => a b) hQ a (c2 r0 r1 r2 r3 b))) b2
theorem pv_10_hasBound_11_i  {Q : Int → iST → Prop} {x2 : Int} {x3 : Int} {x4 : Int} {u : iST} (I : Int → Int → Int → iST → Prop) (s : ∀ (x2 : Int) (x3 : Int) (x4 : Int) (u : iST), I x2 x3 x4 u → pv_10_hasBound_11b I Q x2 x3 x4 u) (h : I x2 x3 x4 u) : pv_10_hasBound_11 Q x2 x3 x4 u := ⟨I, s, h⟩
theorem mn_v_10_hasBound_11 {Q1 Q2 : Int → iST → Prop}  {x2 : Int} {x3 : Int} {x4 : Int} {u : iST} (hQ : ∀ r0 r1, Q1 r0 r1 → Q2 r0 r1) : pv_10_hasBound_11 Q1 x2 x3 x4 u → pv_10_hasBound_11 Q2 x2 x3 x4 u := fun ⟨R, s, h⟩ => ⟨R, fun r0 r1 r2 r3 a => mn_v_10_hasBound_11b (fun r0 r1 r2 r3 a => a) hQ (s r0 r1 r2 r3 a), h⟩
theorem un_v_10_hasBound_11  {Q : Int → iST → Prop} {x2 : Int} {x3 : Int} {x4 : Int} {u : iST} : pv_10_hasBound_11 Q x2 x3 x4 u → pv_10_hasBound_11b (fun x2 x3 x4 u => pv_10_hasBound_11 Q x2 x3 x4 u) Q x2 x3 x4 u := fun ⟨R, s, h⟩ => mn_v_10_hasBound_11b (fun r0 r1 r2 r3 a => ⟨R, s, a⟩) (fun _ _ h => h) (s _ _ _ _ h)
theorem fo_v_10_hasBound_11  {Q : Int → iST → Prop} {x2 : Int} {x3 : Int} {x4 : Int} {u : iST} : pv_10_hasBound_11b (fun x2 x3 x4 u => pv_10_hasBound_11 Q x2 x3 x4 u) Q x2 x3 x4 u → pv_10_hasBound_11 Q x2 x3 x4 u := fun h => ⟨fun x2 x3 x4 u => pv_10_hasBound_11b (fun x2 x3 x4 u => pv_10_hasBound_11 Q x2 x3 x4 u) Q x2 x3 x4 u, fun r0 r1 r2 r3 a => mn_v_10_hasBound_11b (fun r0 r1 r2 r3 a => un_v_10_hasBound_11 a) (fun _ _ h => h) a, h⟩
theorem wp_v_10_hasBound_11 {Q1 Q2 : Int → iST → Prop}  {x2 : Int} {x3 : Int} {x4 : Int} {u : iST} (hQ : ∀ r0 r1, Q1 r0 r1 → Q2 r0 r1) : v_10_hasBound_11 Q1 x2 x3 x4 u → pv_10_hasBound_11 Q2 x2 x3 x4 u := fun a => a (fun x2 x3 x4 u => pv_10_hasBound_11 Q2 x2 x3 x4 u) (fun x2 x3 x4 u b => fo_v_10_hasBound_11 (wp_v_10_hasBound_11b (fun r0 r1 r2 r3 a => a) hQ b))
def pv_10_hasBound (a0 : Int) (Q : Int → iST → Prop) (u : iST) : Prop :=
  pv_10_listParts a0 (fun v1 u => 
  pv_10_hasBound_11 Q v1 0 0 u) u
theorem cj_v_10_hasBound {Q1 Q2 Q3 : Int → iST → Prop}  {a0 : Int} {u : iST} (hQ : ∀ r0 r1, Q1 r0 r1 → Q2 r0 r1 → Q3 r0 r1) : v_10_hasBound a0 Q1 u → pv_10_hasBound a0 Q2 u → v_10_hasBound a0 Q3 u := (cj_v_10_listParts (fun _ _ => (cj_v_10_hasBound_11  hQ)))
theorem mn_v_10_hasBound {Q1 Q2 : Int → iST → Prop}  {a0 : Int} {u : iST} (hQ : ∀ r0 r1, Q1 r0 r1 → Q2 r0 r1) : pv_10_hasBound a0 Q1 u → pv_10_hasBound a0 Q2 u := (mn_v_10_listParts (fun _ _ => (mn_v_10_hasBound_11  hQ)))
theorem wp_v_10_hasBound {Q1 Q2 : Int → iST → Prop}  {a0 : Int} {u : iST} (hQ : ∀ r0 r1, Q1 r0 r1 → Q2 r0 r1) : v_10_hasBound a0 Q1 u → pv_10_hasBound a0 Q2 u := (wp_v_10_listParts (fun _ _ => (wp_v_10_hasBound_11  hQ)))
def pv_6_isRule_95b (R95 : Int → Int → Int → Int → iST → Prop) (Q : Int → iST → Prop) (x1 : Int) (x2 : Int) (x5 : Int) (x6 : Int) (u : iST) : Prop :=
  bdp x1 60 (rd (u.2.1 9 x1) (fun v3 => 
  br (v3 ≤ x6) (
    ztp x5 (Q x5 u)) (
    br (x5 = 0) (
      ztp x5 (Q x5 u)) (
      bdp x1 60 (
      bdp x6 60 (rd (u.2.1 50 (60 * x1 + x6)) (fun v6 => 
      pv_10_bindVariablesOf v6 (fun u => 
      pv_10_hasBound x2 (fun v8 u => 
      ovp (x6 + 1) (
      R95 x1 x2 v8 (x6 + 1) u)) u) u)))))))
theorem cj_v_6_isRule_95b {Q1 Q2 Q3 : Int → iST → Prop} {R951 R952 R953 : Int → Int → Int → Int → iST → Prop} {x1 : Int} {x2 : Int} {x5 : Int} {x6 : Int} {u : iST} (hR95 : ∀ r0 r1 r2 r3 r4, R951 r0 r1 r2 r3 r4 → R952 r0 r1 r2 r3 r4 → R953 r0 r1 r2 r3 r4) (hQ : ∀ r0 r1, Q1 r0 r1 → Q2 r0 r1 → Q3 r0 r1) : v_6_isRule_95b R951 Q1 x1 x2 x5 x6 u → pv_6_isRule_95b R952 Q2 x1 x2 x5 x6 u → v_6_isRule_95b R953 Q3 x1 x2 x5 x6 u := (bd_cj (rd_cj fun _ => (br_cj (zt_cj (hQ _ _)) (br_cj (zt_cj (hQ _ _)) (bd_cj (bd_cj (rd_cj fun _ => (cj_v_10_bindVariablesOf (fun _ => (cj_v_10_hasBound (fun _ _ => (ov_cj (hR95 _ _ _ _ _)))))))))))))
theorem mn_v_6_isRule_95b {Q1 Q2 : Int → iST → Prop} {R951 R952 : Int → Int → Int → Int → iST → Prop} {x1 : Int} {x2 : Int} {x5 : Int} {x6 : Int} {u : iST} (hR95 : ∀ r0 r1 r2 r3 r4, R951 r0 r1 r2 r3 r4 → R952 r0 r1 r2 r3 r4) (hQ : ∀ r0 r1, Q1 r0 r1 → Q2 r0 r1) : pv_6_isRule_95b R951 Q1 x1 x2 x5 x6 u → pv_6_isRule_95b R952 Q2 x1 x2 x5 x6 u := (bd_mn (rd_mn fun _ => (br_mn (zt_mn (hQ _ _)) (br_mn (zt_mn (hQ _ _)) (bd_mn (bd_mn (rd_mn fun _ => (mn_v_10_bindVariablesOf (fun _ => (mn_v_10_hasBound (fun _ _ => (ov_mn (hR95 _ _ _ _ _)))))))))))))
theorem wp_v_6_isRule_95b {Q1 Q2 : Int → iST → Prop} {R951 R952 : Int → Int → Int → Int → iST → Prop} {x1 : Int} {x2 : Int} {x5 : Int} {x6 : Int} {u : iST} (hR95 : ∀ r0 r1 r2 r3 r4, R951 r0 r1 r2 r3 r4 → R952 r0 r1 r2 r3 r4) (hQ : ∀ r0 r1, Q1 r0 r1 → Q2 r0 r1) : v_6_isRule_95b R951 Q1 x1 x2 x5 x6 u → pv_6_isRule_95b R952 Q2 x1 x2 x5 x6 u := (bd_wp (rd_wp fun _ => (br_wp (zt_wp (hQ _ _)) (br_wp (zt_wp (hQ _ _)) (bd_wp (bd_wp (rd_wp fun _ => (wp_v_10_bindVariablesOf (fun _ => (wp_v_10_hasBound (fun _ _ => (ov_wp (hR95 _ _ _ _ _)))))))))))))
def pv_6_isRule_95 (Q : Int → iST → Prop) (x1 : Int) (x2 : Int) (x5 : Int) (x6 : Int) (u : iST) : Prop := ∃ R95 : Int → Int → Int → Int → iST → Prop, (∀ (x1 : Int) (x2 : Int) (x5 : Int) (x6 : Int) (u : iST), R95 x1 x2 x5 x6 u → pv_6_isRule_95b R95 Q x1 x2 x5 x6 u) ∧ R95 x1 x2 x5 x6 u
theorem cj_v_6_isRule_95 {Q1 Q2 Q3 : Int → iST → Prop}  {x1 : Int} {x2 : Int} {x5 : Int} {x6 : Int} {u : iST} (hQ : ∀ r0 r1, Q1 r0 r1 → Q2 r0 r1 → Q3 r0 r1) : v_6_isRule_95 Q1 x1 x2 x5 x6 u → pv_6_isRule_95 Q2 x1 x2 x5 x6 u → v_6_isRule_95 Q3 x1 x2 x5 x6 u := by
  intro a b R3 c3
  obtain ⟨R2, c2, b2⟩ := b
  exact a (fun r0 r1 r2 r3 r4 => R2 r0 r1 r2 r3 r4 → R3 r0 r1 r2 r3 r4) (fun r0 r1 r2 r3 r4 a b => c3 r0 r1 r2 r3 r4 (cj_v_6_isRule_95b (fun r0 r1 r2 r3 r4 a b => a b) hQ a (c2 r0 r1 r2 r3 r4 b))) b2
theorem pv_6_isRule_95_i  {Q : Int → iST → Prop} {x1 : Int} {x2 : Int} {x5 : Int} {x6 : Int} {u : iST} (I : Int → Int → Int → Int → iST → Prop) (s : ∀ (x1 : Int) (x2 : Int) (x5 : Int) (x6 : Int) (u : iST), I x1 x2 x5 x6 u → pv_6_isRule_95b I Q x1 x2 x5 x6 u) (h : I x1 x2 x5 x6 u) : pv_6_isRule_95 Q x1 x2 x5 x6 u := ⟨I, s, h⟩
theorem mn_v_6_isRule_95 {Q1 Q2 : Int → iST → Prop}  {x1 : Int} {x2 : Int} {x5 : Int} {x6 : Int} {u : iST} (hQ : ∀ r0 r1, Q1 r0 r1 → Q2 r0 r1) : pv_6_isRule_95 Q1 x1 x2 x5 x6 u → pv_6_isRule_95 Q2 x1 x2 x5 x6 u := fun ⟨R, s, h⟩ => ⟨R, fun r0 r1 r2 r3 r4 a => mn_v_6_isRule_95b (fun r0 r1 r2 r3 r4 a => a) hQ (s r0 r1 r2 r3 r4 a), h⟩
theorem un_v_6_isRule_95  {Q : Int → iST → Prop} {x1 : Int} {x2 : Int} {x5 : Int} {x6 : Int} {u : iST} : pv_6_isRule_95 Q x1 x2 x5 x6 u → pv_6_isRule_95b (fun x1 x2 x5 x6 u => pv_6_isRule_95 Q x1 x2 x5 x6 u) Q x1 x2 x5 x6 u := fun ⟨R, s, h⟩ => mn_v_6_isRule_95b (fun r0 r1 r2 r3 r4 a => ⟨R, s, a⟩) (fun _ _ h => h) (s _ _ _ _ _ h)
theorem fo_v_6_isRule_95  {Q : Int → iST → Prop} {x1 : Int} {x2 : Int} {x5 : Int} {x6 : Int} {u : iST} : pv_6_isRule_95b (fun x1 x2 x5 x6 u => pv_6_isRule_95 Q x1 x2 x5 x6 u) Q x1 x2 x5 x6 u → pv_6_isRule_95 Q x1 x2 x5 x6 u := fun h => ⟨fun x1 x2 x5 x6 u => pv_6_isRule_95b (fun x1 x2 x5 x6 u => pv_6_isRule_95 Q x1 x2 x5 x6 u) Q x1 x2 x5 x6 u, fun r0 r1 r2 r3 r4 a => mn_v_6_isRule_95b (fun r0 r1 r2 r3 r4 a => un_v_6_isRule_95 a) (fun _ _ h => h) a, h⟩
theorem wp_v_6_isRule_95 {Q1 Q2 : Int → iST → Prop}  {x1 : Int} {x2 : Int} {x5 : Int} {x6 : Int} {u : iST} (hQ : ∀ r0 r1, Q1 r0 r1 → Q2 r0 r1) : v_6_isRule_95 Q1 x1 x2 x5 x6 u → pv_6_isRule_95 Q2 x1 x2 x5 x6 u := fun a => a (fun x1 x2 x5 x6 u => pv_6_isRule_95 Q2 x1 x2 x5 x6 u) (fun x1 x2 x5 x6 u b => fo_v_6_isRule_95 (wp_v_6_isRule_95b (fun r0 r1 r2 r3 r4 a => a) hQ b))
def pv_6_isRule_90 (Q : Int → iST → Prop) (x1 : Int) (x2 : Int) (y0 : Int) (u : iST) : Prop :=
  pv_6_isRule_95 Q x1 x2 y0 0 u
theorem cj_v_6_isRule_90 {Q1 Q2 Q3 : Int → iST → Prop}  {x1 : Int} {x2 : Int} {y0 : Int} {u : iST} (hQ : ∀ r0 r1, Q1 r0 r1 → Q2 r0 r1 → Q3 r0 r1) : v_6_isRule_90 Q1 x1 x2 y0 u → pv_6_isRule_90 Q2 x1 x2 y0 u → v_6_isRule_90 Q3 x1 x2 y0 u := (cj_v_6_isRule_95  hQ)
theorem mn_v_6_isRule_90 {Q1 Q2 : Int → iST → Prop}  {x1 : Int} {x2 : Int} {y0 : Int} {u : iST} (hQ : ∀ r0 r1, Q1 r0 r1 → Q2 r0 r1) : pv_6_isRule_90 Q1 x1 x2 y0 u → pv_6_isRule_90 Q2 x1 x2 y0 u := (mn_v_6_isRule_95  hQ)
theorem wp_v_6_isRule_90 {Q1 Q2 : Int → iST → Prop}  {x1 : Int} {x2 : Int} {y0 : Int} {u : iST} (hQ : ∀ r0 r1, Q1 r0 r1 → Q2 r0 r1) : v_6_isRule_90 Q1 x1 x2 y0 u → pv_6_isRule_90 Q2 x1 x2 y0 u := (wp_v_6_isRule_95  hQ)
def pv_6_isRule_89 (Q : Int → iST → Prop) (x1 : Int) (x2 : Int) (u : iST) : Prop :=
  pv_6_isRule_90 Q x1 x2 0 u
theorem cj_v_6_isRule_89 {Q1 Q2 Q3 : Int → iST → Prop}  {x1 : Int} {x2 : Int} {u : iST} (hQ : ∀ r0 r1, Q1 r0 r1 → Q2 r0 r1 → Q3 r0 r1) : v_6_isRule_89 Q1 x1 x2 u → pv_6_isRule_89 Q2 x1 x2 u → v_6_isRule_89 Q3 x1 x2 u := (cj_v_6_isRule_90  hQ)
theorem mn_v_6_isRule_89 {Q1 Q2 : Int → iST → Prop}  {x1 : Int} {x2 : Int} {u : iST} (hQ : ∀ r0 r1, Q1 r0 r1 → Q2 r0 r1) : pv_6_isRule_89 Q1 x1 x2 u → pv_6_isRule_89 Q2 x1 x2 u := (mn_v_6_isRule_90  hQ)
theorem wp_v_6_isRule_89 {Q1 Q2 : Int → iST → Prop}  {x1 : Int} {x2 : Int} {u : iST} (hQ : ∀ r0 r1, Q1 r0 r1 → Q2 r0 r1) : v_6_isRule_89 Q1 x1 x2 u → pv_6_isRule_89 Q2 x1 x2 u := (wp_v_6_isRule_90  hQ)
def pv_6_isRule_59 (Q : Int → iST → Prop) (x1 : Int) (x2 : Int) (x3 : Int) (y0 : Int) (u : iST) : Prop :=
  pv_10_bindVariablesOf x3 (fun u => 
  br (y0 = 0) (
    pv_6_isRule_89 Q x1 x2 u) (
    pv_10_hasBound x2 (fun v10 u => 
    br (v10 = 0) (
      pv_6_isRule_89 Q x1 x2 u) (
      pv_6_isRule_90 Q x1 x2 1 u)) u)) u
theorem cj_v_6_isRule_59 {Q1 Q2 Q3 : Int → iST → Prop}  {x1 : Int} {x2 : Int} {x3 : Int} {y0 : Int} {u : iST} (hQ : ∀ r0 r1, Q1 r0 r1 → Q2 r0 r1 → Q3 r0 r1) : v_6_isRule_59 Q1 x1 x2 x3 y0 u → pv_6_isRule_59 Q2 x1 x2 x3 y0 u → v_6_isRule_59 Q3 x1 x2 x3 y0 u := (cj_v_10_bindVariablesOf (fun _ => (br_cj (cj_v_6_isRule_89  hQ) (cj_v_10_hasBound (fun _ _ => (br_cj (cj_v_6_isRule_89  hQ) (cj_v_6_isRule_90  hQ)))))))
theorem mn_v_6_isRule_59 {Q1 Q2 : Int → iST → Prop}  {x1 : Int} {x2 : Int} {x3 : Int} {y0 : Int} {u : iST} (hQ : ∀ r0 r1, Q1 r0 r1 → Q2 r0 r1) : pv_6_isRule_59 Q1 x1 x2 x3 y0 u → pv_6_isRule_59 Q2 x1 x2 x3 y0 u := (mn_v_10_bindVariablesOf (fun _ => (br_mn (mn_v_6_isRule_89  hQ) (mn_v_10_hasBound (fun _ _ => (br_mn (mn_v_6_isRule_89  hQ) (mn_v_6_isRule_90  hQ)))))))
theorem wp_v_6_isRule_59 {Q1 Q2 : Int → iST → Prop}  {x1 : Int} {x2 : Int} {x3 : Int} {y0 : Int} {u : iST} (hQ : ∀ r0 r1, Q1 r0 r1 → Q2 r0 r1) : v_6_isRule_59 Q1 x1 x2 x3 y0 u → pv_6_isRule_59 Q2 x1 x2 x3 y0 u := (wp_v_10_bindVariablesOf (fun _ => (br_wp (wp_v_6_isRule_89  hQ) (wp_v_10_hasBound (fun _ _ => (br_wp (wp_v_6_isRule_89  hQ) (wp_v_6_isRule_90  hQ)))))))
def pv_6_isRule_58 (Q : Int → iST → Prop) (x1 : Int) (x2 : Int) (x3 : Int) (u : iST) : Prop :=
  pv_6_isRule_59 Q x1 x2 x3 0 u
theorem cj_v_6_isRule_58 {Q1 Q2 Q3 : Int → iST → Prop}  {x1 : Int} {x2 : Int} {x3 : Int} {u : iST} (hQ : ∀ r0 r1, Q1 r0 r1 → Q2 r0 r1 → Q3 r0 r1) : v_6_isRule_58 Q1 x1 x2 x3 u → pv_6_isRule_58 Q2 x1 x2 x3 u → v_6_isRule_58 Q3 x1 x2 x3 u := (cj_v_6_isRule_59  hQ)
theorem mn_v_6_isRule_58 {Q1 Q2 : Int → iST → Prop}  {x1 : Int} {x2 : Int} {x3 : Int} {u : iST} (hQ : ∀ r0 r1, Q1 r0 r1 → Q2 r0 r1) : pv_6_isRule_58 Q1 x1 x2 x3 u → pv_6_isRule_58 Q2 x1 x2 x3 u := (mn_v_6_isRule_59  hQ)
theorem wp_v_6_isRule_58 {Q1 Q2 : Int → iST → Prop}  {x1 : Int} {x2 : Int} {x3 : Int} {u : iST} (hQ : ∀ r0 r1, Q1 r0 r1 → Q2 r0 r1) : v_6_isRule_58 Q1 x1 x2 x3 u → pv_6_isRule_58 Q2 x1 x2 x3 u := (wp_v_6_isRule_59  hQ)
def pv_6_isRule (a0 : Int) (a1 : Int) (a2 : Int) (Q : Int → iST → Prop) (u : iST) : Prop :=
  pv_7_isCall a1 (fun v1 u => 
  br (v1 = 0) (
    pv_6_isRule_58 Q a0 a1 a2 u) (
    pv_7_isCallOf a1 3 (fun v11 u => 
    br (v11 ≠ 0) (
      pv_6_isRule_58 Q a0 a1 a2 u) (
      pv_7_isCallOf a1 16 (fun v12 u => 
      br (v12 ≠ 0) (
        pv_6_isRule_58 Q a0 a1 a2 u) (
        pv_7_isCallOf a1 6 (fun v13 u => 
        br (v13 ≠ 0) (
          pv_6_isRule_58 Q a0 a1 a2 u) (
          br (a2 = a1) (
            pv_6_isRule_58 Q a0 a1 a2 u) (
            pv_6_isRule_59 Q a0 a1 a2 1 u))) u)) u)) u)) u
theorem cj_v_6_isRule {Q1 Q2 Q3 : Int → iST → Prop}  {a0 : Int} {a1 : Int} {a2 : Int} {u : iST} (hQ : ∀ r0 r1, Q1 r0 r1 → Q2 r0 r1 → Q3 r0 r1) : v_6_isRule a0 a1 a2 Q1 u → pv_6_isRule a0 a1 a2 Q2 u → v_6_isRule a0 a1 a2 Q3 u := (cj_v_7_isCall (fun _ _ => (br_cj (cj_v_6_isRule_58  hQ) (cj_v_7_isCallOf (fun _ _ => (br_cj (cj_v_6_isRule_58  hQ) (cj_v_7_isCallOf (fun _ _ => (br_cj (cj_v_6_isRule_58  hQ) (cj_v_7_isCallOf (fun _ _ => (br_cj (cj_v_6_isRule_58  hQ) (br_cj (cj_v_6_isRule_58  hQ) (cj_v_6_isRule_59  hQ))))))))))))))
theorem mn_v_6_isRule {Q1 Q2 : Int → iST → Prop}  {a0 : Int} {a1 : Int} {a2 : Int} {u : iST} (hQ : ∀ r0 r1, Q1 r0 r1 → Q2 r0 r1) : pv_6_isRule a0 a1 a2 Q1 u → pv_6_isRule a0 a1 a2 Q2 u := (mn_v_7_isCall (fun _ _ => (br_mn (mn_v_6_isRule_58  hQ) (mn_v_7_isCallOf (fun _ _ => (br_mn (mn_v_6_isRule_58  hQ) (mn_v_7_isCallOf (fun _ _ => (br_mn (mn_v_6_isRule_58  hQ) (mn_v_7_isCallOf (fun _ _ => (br_mn (mn_v_6_isRule_58  hQ) (br_mn (mn_v_6_isRule_58  hQ) (mn_v_6_isRule_59  hQ))))))))))))))
theorem wp_v_6_isRule {Q1 Q2 : Int → iST → Prop}  {a0 : Int} {a1 : Int} {a2 : Int} {u : iST} (hQ : ∀ r0 r1, Q1 r0 r1 → Q2 r0 r1) : v_6_isRule a0 a1 a2 Q1 u → pv_6_isRule a0 a1 a2 Q2 u := (wp_v_7_isCall (fun _ _ => (br_wp (wp_v_6_isRule_58  hQ) (wp_v_7_isCallOf (fun _ _ => (br_wp (wp_v_6_isRule_58  hQ) (wp_v_7_isCallOf (fun _ _ => (br_wp (wp_v_6_isRule_58  hQ) (wp_v_7_isCallOf (fun _ _ => (br_wp (wp_v_6_isRule_58  hQ) (br_wp (wp_v_6_isRule_58  hQ) (wp_v_6_isRule_59  hQ))))))))))))))
def pv_10_isBoundToVariables_30b (R2 : Int → iST → Prop) (R30 : Int → Int → iST → Prop) (Q : Int → iST → Prop) (x1 : Int) (x2 : Int) (u : iST) : Prop :=
  br (x1 ≤ x2) (
    ovp (x1 + 1) (
    R2 (x1 + 1) u)) (
    bdp x2 256 (rd (u.2.1 36 x2) (fun v5 => 
    bdp x1 256 (rd (u.2.1 36 x1) (fun v6 => 
    br (v5 ≠ v6) (
      ovp (x2 + 1) (
      R30 x1 (x2 + 1) u)) (
      ztp 0 (Q 0 u)))))))
theorem cj_v_10_isBoundToVariables_30b {Q1 Q2 Q3 : Int → iST → Prop} {R21 R22 R23 : Int → iST → Prop} {R301 R302 R303 : Int → Int → iST → Prop} {x1 : Int} {x2 : Int} {u : iST} (hR2 : ∀ r0 r1, R21 r0 r1 → R22 r0 r1 → R23 r0 r1) (hR30 : ∀ r0 r1 r2, R301 r0 r1 r2 → R302 r0 r1 r2 → R303 r0 r1 r2) (hQ : ∀ r0 r1, Q1 r0 r1 → Q2 r0 r1 → Q3 r0 r1) : v_10_isBoundToVariables_30b R21 R301 Q1 x1 x2 u → pv_10_isBoundToVariables_30b R22 R302 Q2 x1 x2 u → v_10_isBoundToVariables_30b R23 R303 Q3 x1 x2 u := (br_cj (ov_cj (hR2 _ _)) (bd_cj (rd_cj fun _ => (bd_cj (rd_cj fun _ => (br_cj (ov_cj (hR30 _ _ _)) (zt_cj (hQ _ _))))))))
theorem mn_v_10_isBoundToVariables_30b {Q1 Q2 : Int → iST → Prop} {R21 R22 : Int → iST → Prop} {R301 R302 : Int → Int → iST → Prop} {x1 : Int} {x2 : Int} {u : iST} (hR2 : ∀ r0 r1, R21 r0 r1 → R22 r0 r1) (hR30 : ∀ r0 r1 r2, R301 r0 r1 r2 → R302 r0 r1 r2) (hQ : ∀ r0 r1, Q1 r0 r1 → Q2 r0 r1) : pv_10_isBoundToVariables_30b R21 R301 Q1 x1 x2 u → pv_10_isBoundToVariables_30b R22 R302 Q2 x1 x2 u := (br_mn (ov_mn (hR2 _ _)) (bd_mn (rd_mn fun _ => (bd_mn (rd_mn fun _ => (br_mn (ov_mn (hR30 _ _ _)) (zt_mn (hQ _ _))))))))
theorem wp_v_10_isBoundToVariables_30b {Q1 Q2 : Int → iST → Prop} {R21 R22 : Int → iST → Prop} {R301 R302 : Int → Int → iST → Prop} {x1 : Int} {x2 : Int} {u : iST} (hR2 : ∀ r0 r1, R21 r0 r1 → R22 r0 r1) (hR30 : ∀ r0 r1 r2, R301 r0 r1 r2 → R302 r0 r1 r2) (hQ : ∀ r0 r1, Q1 r0 r1 → Q2 r0 r1) : v_10_isBoundToVariables_30b R21 R301 Q1 x1 x2 u → pv_10_isBoundToVariables_30b R22 R302 Q2 x1 x2 u := (br_wp (ov_wp (hR2 _ _)) (bd_wp (rd_wp fun _ => (bd_wp (rd_wp fun _ => (br_wp (ov_wp (hR30 _ _ _)) (zt_wp (hQ _ _))))))))
def pv_10_isBoundToVariables_30 (R2 : Int → iST → Prop) (Q : Int → iST → Prop) (x1 : Int) (x2 : Int) (u : iST) : Prop := ∃ R30 : Int → Int → iST → Prop, (∀ (x1 : Int) (x2 : Int) (u : iST), R30 x1 x2 u → pv_10_isBoundToVariables_30b R2 R30 Q x1 x2 u) ∧ R30 x1 x2 u
theorem cj_v_10_isBoundToVariables_30 {Q1 Q2 Q3 : Int → iST → Prop} {R21 R22 R23 : Int → iST → Prop} {x1 : Int} {x2 : Int} {u : iST} (hR2 : ∀ r0 r1, R21 r0 r1 → R22 r0 r1 → R23 r0 r1) (hQ : ∀ r0 r1, Q1 r0 r1 → Q2 r0 r1 → Q3 r0 r1) : v_10_isBoundToVariables_30 R21 Q1 x1 x2 u → pv_10_isBoundToVariables_30 R22 Q2 x1 x2 u → v_10_isBoundToVariables_30 R23 Q3 x1 x2 u := by
  intro a b R3 c3
  obtain ⟨R2, c2, b2⟩ := b
  exact a (fun r0 r1 r2 => R2 r0 r1 r2 → R3 r0 r1 r2) (fun r0 r1 r2 a b => c3 r0 r1 r2 (cj_v_10_isBoundToVariables_30b hR2 (fun r0 r1 r2 a b => a b) hQ a (c2 r0 r1 r2 b))) b2
theorem pv_10_isBoundToVariables_30_i {R2 : Int → iST → Prop} {Q : Int → iST → Prop} {x1 : Int} {x2 : Int} {u : iST} (I : Int → Int → iST → Prop) (s : ∀ (x1 : Int) (x2 : Int) (u : iST), I x1 x2 u → pv_10_isBoundToVariables_30b R2 I Q x1 x2 u) (h : I x1 x2 u) : pv_10_isBoundToVariables_30 R2 Q x1 x2 u := ⟨I, s, h⟩
theorem mn_v_10_isBoundToVariables_30 {Q1 Q2 : Int → iST → Prop} {R21 R22 : Int → iST → Prop} {x1 : Int} {x2 : Int} {u : iST} (hR2 : ∀ r0 r1, R21 r0 r1 → R22 r0 r1) (hQ : ∀ r0 r1, Q1 r0 r1 → Q2 r0 r1) : pv_10_isBoundToVariables_30 R21 Q1 x1 x2 u → pv_10_isBoundToVariables_30 R22 Q2 x1 x2 u := fun ⟨R, s, h⟩ => ⟨R, fun r0 r1 r2 a => mn_v_10_isBoundToVariables_30b hR2 (fun r0 r1 r2 a => a) hQ (s r0 r1 r2 a), h⟩
theorem un_v_10_isBoundToVariables_30 {R2 : Int → iST → Prop} {Q : Int → iST → Prop} {x1 : Int} {x2 : Int} {u : iST} : pv_10_isBoundToVariables_30 R2 Q x1 x2 u → pv_10_isBoundToVariables_30b R2 (fun x1 x2 u => pv_10_isBoundToVariables_30 R2 Q x1 x2 u) Q x1 x2 u := fun ⟨R, s, h⟩ => mn_v_10_isBoundToVariables_30b (fun _ _ h => h) (fun r0 r1 r2 a => ⟨R, s, a⟩) (fun _ _ h => h) (s _ _ _ h)
theorem fo_v_10_isBoundToVariables_30 {R2 : Int → iST → Prop} {Q : Int → iST → Prop} {x1 : Int} {x2 : Int} {u : iST} : pv_10_isBoundToVariables_30b R2 (fun x1 x2 u => pv_10_isBoundToVariables_30 R2 Q x1 x2 u) Q x1 x2 u → pv_10_isBoundToVariables_30 R2 Q x1 x2 u := fun h => ⟨fun x1 x2 u => pv_10_isBoundToVariables_30b R2 (fun x1 x2 u => pv_10_isBoundToVariables_30 R2 Q x1 x2 u) Q x1 x2 u, fun r0 r1 r2 a => mn_v_10_isBoundToVariables_30b (fun _ _ h => h) (fun r0 r1 r2 a => un_v_10_isBoundToVariables_30 a) (fun _ _ h => h) a, h⟩
theorem wp_v_10_isBoundToVariables_30 {Q1 Q2 : Int → iST → Prop} {R21 R22 : Int → iST → Prop} {x1 : Int} {x2 : Int} {u : iST} (hR2 : ∀ r0 r1, R21 r0 r1 → R22 r0 r1) (hQ : ∀ r0 r1, Q1 r0 r1 → Q2 r0 r1) : v_10_isBoundToVariables_30 R21 Q1 x1 x2 u → pv_10_isBoundToVariables_30 R22 Q2 x1 x2 u := fun a => a (fun x1 x2 u => pv_10_isBoundToVariables_30 R22 Q2 x1 x2 u) (fun x1 x2 u b => fo_v_10_isBoundToVariables_30 (wp_v_10_isBoundToVariables_30b hR2 (fun r0 r1 r2 a => a) hQ b))
def pv_10_isBoundToVariables_2b (R2 : Int → iST → Prop) (Q : Int → iST → Prop) (x1 : Int) (u : iST) : Prop :=
  rd (u.1 39) (fun v1 => 
  br (v1 ≤ x1) (
    ztp 1 (Q 1 u)) (
    bdp x1 256 (rd (u.2.1 36 x1) (fun v2 => 
    pv_7_isVariable v2 (fun v3 u => 
    br (v3 ≠ 0) (
      pv_10_isBoundToVariables_30 R2 Q x1 0 u) (
      ztp 0 (Q 0 u))) u))))
theorem cj_v_10_isBoundToVariables_2b {Q1 Q2 Q3 : Int → iST → Prop} {R21 R22 R23 : Int → iST → Prop} {x1 : Int} {u : iST} (hR2 : ∀ r0 r1, R21 r0 r1 → R22 r0 r1 → R23 r0 r1) (hQ : ∀ r0 r1, Q1 r0 r1 → Q2 r0 r1 → Q3 r0 r1) : v_10_isBoundToVariables_2b R21 Q1 x1 u → pv_10_isBoundToVariables_2b R22 Q2 x1 u → v_10_isBoundToVariables_2b R23 Q3 x1 u := (rd_cj fun _ => (br_cj (zt_cj (hQ _ _)) (bd_cj (rd_cj fun _ => (cj_v_7_isVariable (fun _ _ => (br_cj (cj_v_10_isBoundToVariables_30 hR2 hQ) (zt_cj (hQ _ _)))))))))
theorem mn_v_10_isBoundToVariables_2b {Q1 Q2 : Int → iST → Prop} {R21 R22 : Int → iST → Prop} {x1 : Int} {u : iST} (hR2 : ∀ r0 r1, R21 r0 r1 → R22 r0 r1) (hQ : ∀ r0 r1, Q1 r0 r1 → Q2 r0 r1) : pv_10_isBoundToVariables_2b R21 Q1 x1 u → pv_10_isBoundToVariables_2b R22 Q2 x1 u := (rd_mn fun _ => (br_mn (zt_mn (hQ _ _)) (bd_mn (rd_mn fun _ => (mn_v_7_isVariable (fun _ _ => (br_mn (mn_v_10_isBoundToVariables_30 hR2 hQ) (zt_mn (hQ _ _)))))))))
theorem wp_v_10_isBoundToVariables_2b {Q1 Q2 : Int → iST → Prop} {R21 R22 : Int → iST → Prop} {x1 : Int} {u : iST} (hR2 : ∀ r0 r1, R21 r0 r1 → R22 r0 r1) (hQ : ∀ r0 r1, Q1 r0 r1 → Q2 r0 r1) : v_10_isBoundToVariables_2b R21 Q1 x1 u → pv_10_isBoundToVariables_2b R22 Q2 x1 u := (rd_wp fun _ => (br_wp (zt_wp (hQ _ _)) (bd_wp (rd_wp fun _ => (wp_v_7_isVariable (fun _ _ => (br_wp (wp_v_10_isBoundToVariables_30 hR2 hQ) (zt_wp (hQ _ _)))))))))
def pv_10_isBoundToVariables_2 (Q : Int → iST → Prop) (x1 : Int) (u : iST) : Prop := ∃ R2 : Int → iST → Prop, (∀ (x1 : Int) (u : iST), R2 x1 u → pv_10_isBoundToVariables_2b R2 Q x1 u) ∧ R2 x1 u
theorem cj_v_10_isBoundToVariables_2 {Q1 Q2 Q3 : Int → iST → Prop}  {x1 : Int} {u : iST} (hQ : ∀ r0 r1, Q1 r0 r1 → Q2 r0 r1 → Q3 r0 r1) : v_10_isBoundToVariables_2 Q1 x1 u → pv_10_isBoundToVariables_2 Q2 x1 u → v_10_isBoundToVariables_2 Q3 x1 u := by
  intro a b R3 c3
  obtain ⟨R2, c2, b2⟩ := b
  exact a (fun r0 r1 => R2 r0 r1 → R3 r0 r1) (fun r0 r1 a b => c3 r0 r1 (cj_v_10_isBoundToVariables_2b (fun r0 r1 a b => a b) hQ a (c2 r0 r1 b))) b2
theorem pv_10_isBoundToVariables_2_i  {Q : Int → iST → Prop} {x1 : Int} {u : iST} (I : Int → iST → Prop) (s : ∀ (x1 : Int) (u : iST), I x1 u → pv_10_isBoundToVariables_2b I Q x1 u) (h : I x1 u) : pv_10_isBoundToVariables_2 Q x1 u := ⟨I, s, h⟩
theorem mn_v_10_isBoundToVariables_2 {Q1 Q2 : Int → iST → Prop}  {x1 : Int} {u : iST} (hQ : ∀ r0 r1, Q1 r0 r1 → Q2 r0 r1) : pv_10_isBoundToVariables_2 Q1 x1 u → pv_10_isBoundToVariables_2 Q2 x1 u := fun ⟨R, s, h⟩ => ⟨R, fun r0 r1 a => mn_v_10_isBoundToVariables_2b (fun r0 r1 a => a) hQ (s r0 r1 a), h⟩
theorem un_v_10_isBoundToVariables_2  {Q : Int → iST → Prop} {x1 : Int} {u : iST} : pv_10_isBoundToVariables_2 Q x1 u → pv_10_isBoundToVariables_2b (fun x1 u => pv_10_isBoundToVariables_2 Q x1 u) Q x1 u := fun ⟨R, s, h⟩ => mn_v_10_isBoundToVariables_2b (fun r0 r1 a => ⟨R, s, a⟩) (fun _ _ h => h) (s _ _ h)
theorem fo_v_10_isBoundToVariables_2  {Q : Int → iST → Prop} {x1 : Int} {u : iST} : pv_10_isBoundToVariables_2b (fun x1 u => pv_10_isBoundToVariables_2 Q x1 u) Q x1 u → pv_10_isBoundToVariables_2 Q x1 u := fun h => ⟨fun x1 u => pv_10_isBoundToVariables_2b (fun x1 u => pv_10_isBoundToVariables_2 Q x1 u) Q x1 u, fun r0 r1 a => mn_v_10_isBoundToVariables_2b (fun r0 r1 a => un_v_10_isBoundToVariables_2 a) (fun _ _ h => h) a, h⟩
theorem wp_v_10_isBoundToVariables_2 {Q1 Q2 : Int → iST → Prop}  {x1 : Int} {u : iST} (hQ : ∀ r0 r1, Q1 r0 r1 → Q2 r0 r1) : v_10_isBoundToVariables_2 Q1 x1 u → pv_10_isBoundToVariables_2 Q2 x1 u := fun a => a (fun x1 u => pv_10_isBoundToVariables_2 Q2 x1 u) (fun x1 u b => fo_v_10_isBoundToVariables_2 (wp_v_10_isBoundToVariables_2b (fun r0 r1 a => a) hQ b))
def pv_10_isBoundToVariables (Q : Int → iST → Prop) (u : iST) : Prop :=
  pv_10_isBoundToVariables_2 Q 0 u
theorem cj_v_10_isBoundToVariables {Q1 Q2 Q3 : Int → iST → Prop}  {u : iST} (hQ : ∀ r0 r1, Q1 r0 r1 → Q2 r0 r1 → Q3 r0 r1) : v_10_isBoundToVariables Q1 u → pv_10_isBoundToVariables Q2 u → v_10_isBoundToVariables Q3 u := (cj_v_10_isBoundToVariables_2  hQ)
theorem mn_v_10_isBoundToVariables {Q1 Q2 : Int → iST → Prop}  {u : iST} (hQ : ∀ r0 r1, Q1 r0 r1 → Q2 r0 r1) : pv_10_isBoundToVariables Q1 u → pv_10_isBoundToVariables Q2 u := (mn_v_10_isBoundToVariables_2  hQ)
theorem wp_v_10_isBoundToVariables {Q1 Q2 : Int → iST → Prop}  {u : iST} (hQ : ∀ r0 r1, Q1 r0 r1 → Q2 r0 r1) : v_10_isBoundToVariables Q1 u → pv_10_isBoundToVariables Q2 u := (wp_v_10_isBoundToVariables_2  hQ)
def pv_6_learn_266 (Q : iST → Prop) (x1 : Int) (y1 : Int) (y2 : Int) (u : iST) : Prop :=
  ztp y2 (bdp y1 60 (sw (iA u 11 y1 y2) (fun u => 
  ztp 1 (bdp x1 60 (sw (iA u 12 x1 1) (fun u => 
  Q u))))))
theorem cj_v_6_learn_266 {Q1 Q2 Q3 : iST → Prop}  {x1 : Int} {y1 : Int} {y2 : Int} {u : iST} (hQ : ∀ r0, Q1 r0 → Q2 r0 → Q3 r0) : v_6_learn_266 Q1 x1 y1 y2 u → pv_6_learn_266 Q2 x1 y1 y2 u → v_6_learn_266 Q3 x1 y1 y2 u := (zt_cj (bd_cj (sw_cj fun _ => (zt_cj (bd_cj (sw_cj fun _ => (hQ _)))))))
theorem mn_v_6_learn_266 {Q1 Q2 : iST → Prop}  {x1 : Int} {y1 : Int} {y2 : Int} {u : iST} (hQ : ∀ r0, Q1 r0 → Q2 r0) : pv_6_learn_266 Q1 x1 y1 y2 u → pv_6_learn_266 Q2 x1 y1 y2 u := (zt_mn (bd_mn (sw_mn fun _ => (zt_mn (bd_mn (sw_mn fun _ => (hQ _)))))))
theorem wp_v_6_learn_266 {Q1 Q2 : iST → Prop}  {x1 : Int} {y1 : Int} {y2 : Int} {u : iST} (hQ : ∀ r0, Q1 r0 → Q2 r0) : v_6_learn_266 Q1 x1 y1 y2 u → pv_6_learn_266 Q2 x1 y1 y2 u := (zt_wp (bd_wp (sw_wp fun _ => (zt_wp (bd_wp (sw_wp fun _ => (hQ _)))))))
def pv_6_learn_265 (Q : iST → Prop) (x1 : Int) (y1 : Int) (u : iST) : Prop :=
  pv_6_learn_266 Q x1 y1 0 u
theorem cj_v_6_learn_265 {Q1 Q2 Q3 : iST → Prop}  {x1 : Int} {y1 : Int} {u : iST} (hQ : ∀ r0, Q1 r0 → Q2 r0 → Q3 r0) : v_6_learn_265 Q1 x1 y1 u → pv_6_learn_265 Q2 x1 y1 u → v_6_learn_265 Q3 x1 y1 u := (cj_v_6_learn_266  hQ)
theorem mn_v_6_learn_265 {Q1 Q2 : iST → Prop}  {x1 : Int} {y1 : Int} {u : iST} (hQ : ∀ r0, Q1 r0 → Q2 r0) : pv_6_learn_265 Q1 x1 y1 u → pv_6_learn_265 Q2 x1 y1 u := (mn_v_6_learn_266  hQ)
theorem wp_v_6_learn_265 {Q1 Q2 : iST → Prop}  {x1 : Int} {y1 : Int} {u : iST} (hQ : ∀ r0, Q1 r0 → Q2 r0) : v_6_learn_265 Q1 x1 y1 u → pv_6_learn_265 Q2 x1 y1 u := (wp_v_6_learn_266  hQ)
def pv_6_learn_194 (Q : iST → Prop) (x1 : Int) (x5 : Int) (x6 : Int) (y1 : Int) (y2 : Int) (u : iST) : Prop :=
  ztp y2 (bdp y1 60 (sw (iA u 10 y1 y2) (fun u => 
  pv_6_isRule x1 x5 x6 (fun v7 u => 
  br (v7 = 0) (
    Q u) (
    bdp x1 60 (sw (iA u 7 x1 x5) (fun u => 
    bdp x1 60 (sw (iA u 8 x1 x6) (fun u => 
    pv_10_matches x5 x6 (fun v8 u => 
    br (v8 = 0) (
      pv_6_learn_265 Q x1 x1 u) (
      pv_10_isBoundToVariables (fun v9 u => 
      br (v9 = 0) (
        pv_6_learn_265 Q x1 x1 u) (
        pv_6_learn_266 Q x1 x1 1 u)) u)) u)))))) u)))
theorem cj_v_6_learn_194 {Q1 Q2 Q3 : iST → Prop}  {x1 : Int} {x5 : Int} {x6 : Int} {y1 : Int} {y2 : Int} {u : iST} (hQ : ∀ r0, Q1 r0 → Q2 r0 → Q3 r0) : v_6_learn_194 Q1 x1 x5 x6 y1 y2 u → pv_6_learn_194 Q2 x1 x5 x6 y1 y2 u → v_6_learn_194 Q3 x1 x5 x6 y1 y2 u := (zt_cj (bd_cj (sw_cj fun _ => (cj_v_6_isRule (fun _ _ => (br_cj (hQ _) (bd_cj (sw_cj fun _ => (bd_cj (sw_cj fun _ => (cj_v_10_matches (fun _ _ => (br_cj (cj_v_6_learn_265  hQ) (cj_v_10_isBoundToVariables (fun _ _ => (br_cj (cj_v_6_learn_265  hQ) (cj_v_6_learn_266  hQ)))))))))))))))))
theorem mn_v_6_learn_194 {Q1 Q2 : iST → Prop}  {x1 : Int} {x5 : Int} {x6 : Int} {y1 : Int} {y2 : Int} {u : iST} (hQ : ∀ r0, Q1 r0 → Q2 r0) : pv_6_learn_194 Q1 x1 x5 x6 y1 y2 u → pv_6_learn_194 Q2 x1 x5 x6 y1 y2 u := (zt_mn (bd_mn (sw_mn fun _ => (mn_v_6_isRule (fun _ _ => (br_mn (hQ _) (bd_mn (sw_mn fun _ => (bd_mn (sw_mn fun _ => (mn_v_10_matches (fun _ _ => (br_mn (mn_v_6_learn_265  hQ) (mn_v_10_isBoundToVariables (fun _ _ => (br_mn (mn_v_6_learn_265  hQ) (mn_v_6_learn_266  hQ)))))))))))))))))
theorem wp_v_6_learn_194 {Q1 Q2 : iST → Prop}  {x1 : Int} {x5 : Int} {x6 : Int} {y1 : Int} {y2 : Int} {u : iST} (hQ : ∀ r0, Q1 r0 → Q2 r0) : v_6_learn_194 Q1 x1 x5 x6 y1 y2 u → pv_6_learn_194 Q2 x1 x5 x6 y1 y2 u := (zt_wp (bd_wp (sw_wp fun _ => (wp_v_6_isRule (fun _ _ => (br_wp (hQ _) (bd_wp (sw_wp fun _ => (bd_wp (sw_wp fun _ => (wp_v_10_matches (fun _ _ => (br_wp (wp_v_6_learn_265  hQ) (wp_v_10_isBoundToVariables (fun _ _ => (br_wp (wp_v_6_learn_265  hQ) (wp_v_6_learn_266  hQ)))))))))))))))))
def pv_6_learn_193 (Q : iST → Prop) (x1 : Int) (x5 : Int) (x6 : Int) (y1 : Int) (u : iST) : Prop :=
  pv_6_learn_194 Q x1 x5 x6 y1 0 u
theorem cj_v_6_learn_193 {Q1 Q2 Q3 : iST → Prop}  {x1 : Int} {x5 : Int} {x6 : Int} {y1 : Int} {u : iST} (hQ : ∀ r0, Q1 r0 → Q2 r0 → Q3 r0) : v_6_learn_193 Q1 x1 x5 x6 y1 u → pv_6_learn_193 Q2 x1 x5 x6 y1 u → v_6_learn_193 Q3 x1 x5 x6 y1 u := (cj_v_6_learn_194  hQ)
theorem mn_v_6_learn_193 {Q1 Q2 : iST → Prop}  {x1 : Int} {x5 : Int} {x6 : Int} {y1 : Int} {u : iST} (hQ : ∀ r0, Q1 r0 → Q2 r0) : pv_6_learn_193 Q1 x1 x5 x6 y1 u → pv_6_learn_193 Q2 x1 x5 x6 y1 u := (mn_v_6_learn_194  hQ)
theorem wp_v_6_learn_193 {Q1 Q2 : iST → Prop}  {x1 : Int} {x5 : Int} {x6 : Int} {y1 : Int} {u : iST} (hQ : ∀ r0, Q1 r0 → Q2 r0) : v_6_learn_193 Q1 x1 x5 x6 y1 u → pv_6_learn_193 Q2 x1 x5 x6 y1 u := (wp_v_6_learn_194  hQ)
def pv_6_learn_158 (Q : iST → Prop) (x1 : Int) (x3 : Int) (x4 : Int) (x5 : Int) (y0 : Int) (u : iST) : Prop :=
  br (x3 ≠ 0) (
    pv_6_learn_193 Q x1 x5 y0 x1 u) (
    br (x4 ≠ 0) (
      pv_6_learn_193 Q x1 x5 y0 x1 u) (
      pv_10_isBoolean x5 (fun v10 u => 
      br (v10 ≠ 0) (
        pv_6_learn_193 Q x1 x5 y0 x1 u) (
        pv_6_learn_194 Q x1 x5 y0 x1 1 u)) u))
theorem cj_v_6_learn_158 {Q1 Q2 Q3 : iST → Prop}  {x1 : Int} {x3 : Int} {x4 : Int} {x5 : Int} {y0 : Int} {u : iST} (hQ : ∀ r0, Q1 r0 → Q2 r0 → Q3 r0) : v_6_learn_158 Q1 x1 x3 x4 x5 y0 u → pv_6_learn_158 Q2 x1 x3 x4 x5 y0 u → v_6_learn_158 Q3 x1 x3 x4 x5 y0 u := (br_cj (cj_v_6_learn_193  hQ) (br_cj (cj_v_6_learn_193  hQ) (cj_v_10_isBoolean (fun _ _ => (br_cj (cj_v_6_learn_193  hQ) (cj_v_6_learn_194  hQ))))))
theorem mn_v_6_learn_158 {Q1 Q2 : iST → Prop}  {x1 : Int} {x3 : Int} {x4 : Int} {x5 : Int} {y0 : Int} {u : iST} (hQ : ∀ r0, Q1 r0 → Q2 r0) : pv_6_learn_158 Q1 x1 x3 x4 x5 y0 u → pv_6_learn_158 Q2 x1 x3 x4 x5 y0 u := (br_mn (mn_v_6_learn_193  hQ) (br_mn (mn_v_6_learn_193  hQ) (mn_v_10_isBoolean (fun _ _ => (br_mn (mn_v_6_learn_193  hQ) (mn_v_6_learn_194  hQ))))))
theorem wp_v_6_learn_158 {Q1 Q2 : iST → Prop}  {x1 : Int} {x3 : Int} {x4 : Int} {x5 : Int} {y0 : Int} {u : iST} (hQ : ∀ r0, Q1 r0 → Q2 r0) : v_6_learn_158 Q1 x1 x3 x4 x5 y0 u → pv_6_learn_158 Q2 x1 x3 x4 x5 y0 u := (br_wp (wp_v_6_learn_193  hQ) (br_wp (wp_v_6_learn_193  hQ) (wp_v_10_isBoolean (fun _ _ => (br_wp (wp_v_6_learn_193  hQ) (wp_v_6_learn_194  hQ))))))
