def pv_2_close (a0 : Int) (Q : iST → Prop) (u : iST) : Prop :=
  rd (u.1 4) (fun v1 => 
  ovp (v1 - 1) (
  sw (iI u 4 (v1 - 1)) (fun u => 
  rd (u.1 4) (fun v3 => 
  bdp v3 300 (rd (u.2.1 18 v3) (fun v4 => 
  sw (iI u 5 v4) (fun u => 
  rd (u.1 5) (fun v5 => 
  bdp v5 1803 (sw (iA u 22 v5 a0) (fun u => 
  rd (u.1 5) (fun v6 => 
  ovp (v6 + 1) (
  sw (iI u 5 (v6 + 1)) (fun u => 
  rd (u.1 4) (fun v8 => 
  bdp v8 300 (rd (u.2.1 20 v8) (fun v9 => 
  sw (iI u 6 v9) (fun u => 
  rd (u.1 4) (fun v10 => 
  bdp v10 300 (rd (u.2.1 21 v10) (fun v11 => 
  sw (iI u 7 v11) (fun u => 
  Q u)))))))))))))))))))))
theorem cj_v_2_close {Q1 Q2 Q3 : iST → Prop}  {a0 : Int} {u : iST} (hQ : ∀ r0, Q1 r0 → Q2 r0 → Q3 r0) : v_2_close a0 Q1 u → pv_2_close a0 Q2 u → v_2_close a0 Q3 u := (rd_cj fun _ => (ov_cj (sw_cj fun _ => (rd_cj fun _ => (bd_cj (rd_cj fun _ => (sw_cj fun _ => (rd_cj fun _ => (bd_cj (sw_cj fun _ => (rd_cj fun _ => (ov_cj (sw_cj fun _ => (rd_cj fun _ => (bd_cj (rd_cj fun _ => (sw_cj fun _ => (rd_cj fun _ => (bd_cj (rd_cj fun _ => (sw_cj fun _ => (hQ _))))))))))))))))))))))
theorem mn_v_2_close {Q1 Q2 : iST → Prop}  {a0 : Int} {u : iST} (hQ : ∀ r0, Q1 r0 → Q2 r0) : pv_2_close a0 Q1 u → pv_2_close a0 Q2 u := (rd_mn fun _ => (ov_mn (sw_mn fun _ => (rd_mn fun _ => (bd_mn (rd_mn fun _ => (sw_mn fun _ => (rd_mn fun _ => (bd_mn (sw_mn fun _ => (rd_mn fun _ => (ov_mn (sw_mn fun _ => (rd_mn fun _ => (bd_mn (rd_mn fun _ => (sw_mn fun _ => (rd_mn fun _ => (bd_mn (rd_mn fun _ => (sw_mn fun _ => (hQ _))))))))))))))))))))))
theorem wp_v_2_close {Q1 Q2 : iST → Prop}  {a0 : Int} {u : iST} (hQ : ∀ r0, Q1 r0 → Q2 r0) : v_2_close a0 Q1 u → pv_2_close a0 Q2 u := (rd_wp fun _ => (ov_wp (sw_wp fun _ => (rd_wp fun _ => (bd_wp (rd_wp fun _ => (sw_wp fun _ => (rd_wp fun _ => (bd_wp (sw_wp fun _ => (rd_wp fun _ => (ov_wp (sw_wp fun _ => (rd_wp fun _ => (bd_wp (rd_wp fun _ => (sw_wp fun _ => (rd_wp fun _ => (bd_wp (rd_wp fun _ => (sw_wp fun _ => (hQ _))))))))))))))))))))))
def pv_2_goOn_193 (Q : Int → iST → Prop) (x1 : Int) (x2 : Int) (u : iST) : Prop :=
  pv_7_right x2 (fun v5 u => 
  bdp x1 300 (sw (iA u 17 x1 v5) (fun u => 
  pv_7_left x2 (fun v6 u => 
  Q v6 u) u))) u
theorem cj_v_2_goOn_193 {Q1 Q2 Q3 : Int → iST → Prop}  {x1 : Int} {x2 : Int} {u : iST} (hQ : ∀ r0 r1, Q1 r0 r1 → Q2 r0 r1 → Q3 r0 r1) : v_2_goOn_193 Q1 x1 x2 u → pv_2_goOn_193 Q2 x1 x2 u → v_2_goOn_193 Q3 x1 x2 u := (cj_v_7_right (fun _ _ => (bd_cj (sw_cj fun _ => (cj_v_7_left (fun _ _ => (hQ _ _)))))))
theorem mn_v_2_goOn_193 {Q1 Q2 : Int → iST → Prop}  {x1 : Int} {x2 : Int} {u : iST} (hQ : ∀ r0 r1, Q1 r0 r1 → Q2 r0 r1) : pv_2_goOn_193 Q1 x1 x2 u → pv_2_goOn_193 Q2 x1 x2 u := (mn_v_7_right (fun _ _ => (bd_mn (sw_mn fun _ => (mn_v_7_left (fun _ _ => (hQ _ _)))))))
theorem wp_v_2_goOn_193 {Q1 Q2 : Int → iST → Prop}  {x1 : Int} {x2 : Int} {u : iST} (hQ : ∀ r0 r1, Q1 r0 r1 → Q2 r0 r1) : v_2_goOn_193 Q1 x1 x2 u → pv_2_goOn_193 Q2 x1 x2 u := (wp_v_7_right (fun _ _ => (bd_wp (sw_wp fun _ => (wp_v_7_left (fun _ _ => (hQ _ _)))))))
def pv_2_goOn_32 (Q : Int → iST → Prop) (y1 : Int) (u : iST) : Prop :=
  pv_2_close y1 (fun u => 
  Q (-1) u) u
theorem cj_v_2_goOn_32 {Q1 Q2 Q3 : Int → iST → Prop}  {y1 : Int} {u : iST} (hQ : ∀ r0 r1, Q1 r0 r1 → Q2 r0 r1 → Q3 r0 r1) : v_2_goOn_32 Q1 y1 u → pv_2_goOn_32 Q2 y1 u → v_2_goOn_32 Q3 y1 u := (cj_v_2_close (fun _ => (hQ _ _)))
theorem mn_v_2_goOn_32 {Q1 Q2 : Int → iST → Prop}  {y1 : Int} {u : iST} (hQ : ∀ r0 r1, Q1 r0 r1 → Q2 r0 r1) : pv_2_goOn_32 Q1 y1 u → pv_2_goOn_32 Q2 y1 u := (mn_v_2_close (fun _ => (hQ _ _)))
theorem wp_v_2_goOn_32 {Q1 Q2 : Int → iST → Prop}  {y1 : Int} {u : iST} (hQ : ∀ r0 r1, Q1 r0 r1 → Q2 r0 r1) : v_2_goOn_32 Q1 y1 u → pv_2_goOn_32 Q2 y1 u := (wp_v_2_close (fun _ => (hQ _ _)))
def pv_2_goOn (a0 : Int) (Q : Int → iST → Prop) (u : iST) : Prop :=
  bdp a0 300 (rz (u.2.1 19 a0) (fun v1 => 
  br (v1 = 0) (
    bdp a0 300 (rd (u.2.1 17 a0) (fun v2 => 
    pv_7_isPair v2 (fun v3 u => 
    br (v3 ≠ 0) (
      bdp a0 300 (rd (u.2.1 16 a0) (fun v4 => 
      br (v4 ≠ 3) (
        pv_2_goOn_193 Q a0 v2 u) (
        rd (u.1 5) (fun v7 => 
        bdp a0 300 (rd (u.2.1 18 a0) (fun v8 => 
        br (v7 ≤ v8) (
          pv_2_goOn_193 Q a0 v2 u) (
          bdp a0 300 (rd (u.2.1 18 a0) (fun v9 => 
          sw (iI u 5 v9) (fun u => 
          ztp 1 (bdp a0 300 (sw (iA u 19 a0 1) (fun u => 
          rd (u.1 5) (fun v10 => 
          bdp v10 1803 (rd (u.2.1 22 v10) (fun v11 => 
          br (v11 = 0) (
            pv_7_right v2 (fun v12 u => 
            pv_7_left v12 (fun v13 u => 
            Q v13 u) u) u) (
            pv_7_left v2 (fun v14 u => 
            Q v14 u) u)))))))))))))))))) (
      ztp 1 (bdp a0 300 (sw (iA u 19 a0 1) (fun u => 
      bdp a0 300 (rd (u.2.1 16 a0) (fun v15 => 
      pv_0_functionOf v15 (fun v16 u => 
      sw (iI u 6 v16) (fun u => 
      bdp a0 300 (rd (u.2.1 18 a0) (fun v17 => 
      sw (iI u 7 v17) (fun u => 
      rd (u.1 6) (fun v18 => 
      br (v18 ≠ (-1)) (
        rd (u.1 6) (fun v19 => 
        bdp v19 40 (rd (u.2.1 3 v19) (fun v20 => 
        Q v20 u)))) (
        Q 0 u))))))) u))))))) u))) (
    rd (u.1 5) (fun v21 => 
    br (v21 ≤ 0) (
      pv_2_goOn_32 Q 0 u) (
      rd (u.1 5) (fun v23 => 
      ovp (v23 - 1) (
      bdp (v23 - 1) 1803 (rd (u.2.1 22 (v23 - 1)) (fun v25 => 
      pv_2_goOn_32 Q v25 u)))))))))
theorem cj_v_2_goOn {Q1 Q2 Q3 : Int → iST → Prop}  {a0 : Int} {u : iST} (hQ : ∀ r0 r1, Q1 r0 r1 → Q2 r0 r1 → Q3 r0 r1) : v_2_goOn a0 Q1 u → pv_2_goOn a0 Q2 u → v_2_goOn a0 Q3 u := (bd_cj (rz_cj fun _ => (br_cj (bd_cj (rd_cj fun _ => (cj_v_7_isPair (fun _ _ => (br_cj (bd_cj (rd_cj fun _ => (br_cj (cj_v_2_goOn_193  hQ) (rd_cj fun _ => (bd_cj (rd_cj fun _ => (br_cj (cj_v_2_goOn_193  hQ) (bd_cj (rd_cj fun _ => (sw_cj fun _ => (zt_cj (bd_cj (sw_cj fun _ => (rd_cj fun _ => (bd_cj (rd_cj fun _ => (br_cj (cj_v_7_right (fun _ _ => (cj_v_7_left (fun _ _ => (hQ _ _))))) (cj_v_7_left (fun _ _ => (hQ _ _)))))))))))))))))))) (zt_cj (bd_cj (sw_cj fun _ => (bd_cj (rd_cj fun _ => (cj_v_0_functionOf (fun _ _ => (sw_cj fun _ => (bd_cj (rd_cj fun _ => (sw_cj fun _ => (rd_cj fun _ => (br_cj (rd_cj fun _ => (bd_cj (rd_cj fun _ => (hQ _ _)))) (hQ _ _))))))))))))))))))) (rd_cj fun _ => (br_cj (cj_v_2_goOn_32  hQ) (rd_cj fun _ => (ov_cj (bd_cj (rd_cj fun _ => (cj_v_2_goOn_32  hQ))))))))))
theorem mn_v_2_goOn {Q1 Q2 : Int → iST → Prop}  {a0 : Int} {u : iST} (hQ : ∀ r0 r1, Q1 r0 r1 → Q2 r0 r1) : pv_2_goOn a0 Q1 u → pv_2_goOn a0 Q2 u := (bd_mn (rz_mn fun _ => (br_mn (bd_mn (rd_mn fun _ => (mn_v_7_isPair (fun _ _ => (br_mn (bd_mn (rd_mn fun _ => (br_mn (mn_v_2_goOn_193  hQ) (rd_mn fun _ => (bd_mn (rd_mn fun _ => (br_mn (mn_v_2_goOn_193  hQ) (bd_mn (rd_mn fun _ => (sw_mn fun _ => (zt_mn (bd_mn (sw_mn fun _ => (rd_mn fun _ => (bd_mn (rd_mn fun _ => (br_mn (mn_v_7_right (fun _ _ => (mn_v_7_left (fun _ _ => (hQ _ _))))) (mn_v_7_left (fun _ _ => (hQ _ _)))))))))))))))))))) (zt_mn (bd_mn (sw_mn fun _ => (bd_mn (rd_mn fun _ => (mn_v_0_functionOf (fun _ _ => (sw_mn fun _ => (bd_mn (rd_mn fun _ => (sw_mn fun _ => (rd_mn fun _ => (br_mn (rd_mn fun _ => (bd_mn (rd_mn fun _ => (hQ _ _)))) (hQ _ _))))))))))))))))))) (rd_mn fun _ => (br_mn (mn_v_2_goOn_32  hQ) (rd_mn fun _ => (ov_mn (bd_mn (rd_mn fun _ => (mn_v_2_goOn_32  hQ))))))))))
theorem wp_v_2_goOn {Q1 Q2 : Int → iST → Prop}  {a0 : Int} {u : iST} (hQ : ∀ r0 r1, Q1 r0 r1 → Q2 r0 r1) : v_2_goOn a0 Q1 u → pv_2_goOn a0 Q2 u := (bd_wp (rz_wp fun _ => (br_wp (bd_wp (rd_wp fun _ => (wp_v_7_isPair (fun _ _ => (br_wp (bd_wp (rd_wp fun _ => (br_wp (wp_v_2_goOn_193  hQ) (rd_wp fun _ => (bd_wp (rd_wp fun _ => (br_wp (wp_v_2_goOn_193  hQ) (bd_wp (rd_wp fun _ => (sw_wp fun _ => (zt_wp (bd_wp (sw_wp fun _ => (rd_wp fun _ => (bd_wp (rd_wp fun _ => (br_wp (wp_v_7_right (fun _ _ => (wp_v_7_left (fun _ _ => (hQ _ _))))) (wp_v_7_left (fun _ _ => (hQ _ _)))))))))))))))))))) (zt_wp (bd_wp (sw_wp fun _ => (bd_wp (rd_wp fun _ => (wp_v_0_functionOf (fun _ _ => (sw_wp fun _ => (bd_wp (rd_wp fun _ => (sw_wp fun _ => (rd_wp fun _ => (br_wp (rd_wp fun _ => (bd_wp (rd_wp fun _ => (hQ _ _)))) (hQ _ _))))))))))))))))))) (rd_wp fun _ => (br_wp (wp_v_2_goOn_32  hQ) (rd_wp fun _ => (ov_wp (bd_wp (rd_wp fun _ => (wp_v_2_goOn_32  hQ))))))))))
def pv_2_evaluated_203 (R35 : Int → Int → iST → Prop) (Q : Int → iST → Prop) (x3 : Int) (x4 : Int) (x6 : Int) (y1 : Int) (u : iST) : Prop :=
  sw (iI u 9 y1) (fun u => 
  pv_2_close x6 (fun u => 
  ovp (x4 + 1) (
  R35 x3 (x4 + 1) u)) u)
theorem cj_v_2_evaluated_203 {Q1 Q2 Q3 : Int → iST → Prop} {R351 R352 R353 : Int → Int → iST → Prop} {x3 : Int} {x4 : Int} {x6 : Int} {y1 : Int} {u : iST} (hR35 : ∀ r0 r1 r2, R351 r0 r1 r2 → R352 r0 r1 r2 → R353 r0 r1 r2) (hQ : ∀ r0 r1, Q1 r0 r1 → Q2 r0 r1 → Q3 r0 r1) : v_2_evaluated_203 R351 Q1 x3 x4 x6 y1 u → pv_2_evaluated_203 R352 Q2 x3 x4 x6 y1 u → v_2_evaluated_203 R353 Q3 x3 x4 x6 y1 u := (sw_cj fun _ => (cj_v_2_close (fun _ => (ov_cj (hR35 _ _ _)))))
theorem mn_v_2_evaluated_203 {Q1 Q2 : Int → iST → Prop} {R351 R352 : Int → Int → iST → Prop} {x3 : Int} {x4 : Int} {x6 : Int} {y1 : Int} {u : iST} (hR35 : ∀ r0 r1 r2, R351 r0 r1 r2 → R352 r0 r1 r2) (hQ : ∀ r0 r1, Q1 r0 r1 → Q2 r0 r1) : pv_2_evaluated_203 R351 Q1 x3 x4 x6 y1 u → pv_2_evaluated_203 R352 Q2 x3 x4 x6 y1 u := (sw_mn fun _ => (mn_v_2_close (fun _ => (ov_mn (hR35 _ _ _)))))
theorem wp_v_2_evaluated_203 {Q1 Q2 : Int → iST → Prop} {R351 R352 : Int → Int → iST → Prop} {x3 : Int} {x4 : Int} {x6 : Int} {y1 : Int} {u : iST} (hR35 : ∀ r0 r1 r2, R351 r0 r1 r2 → R352 r0 r1 r2) (hQ : ∀ r0 r1, Q1 r0 r1 → Q2 r0 r1) : v_2_evaluated_203 R351 Q1 x3 x4 x6 y1 u → pv_2_evaluated_203 R352 Q2 x3 x4 x6 y1 u := (sw_wp fun _ => (wp_v_2_close (fun _ => (ov_wp (hR35 _ _ _)))))
def pv_2_evaluated_104 (R35 : Int → Int → iST → Prop) (Q : Int → iST → Prop) (x4 : Int) (u : iST) : Prop :=
  ovp (x4 + 1) (
  R35 (-1) (x4 + 1) u)
theorem cj_v_2_evaluated_104 {Q1 Q2 Q3 : Int → iST → Prop} {R351 R352 R353 : Int → Int → iST → Prop} {x4 : Int} {u : iST} (hR35 : ∀ r0 r1 r2, R351 r0 r1 r2 → R352 r0 r1 r2 → R353 r0 r1 r2) (hQ : ∀ r0 r1, Q1 r0 r1 → Q2 r0 r1 → Q3 r0 r1) : v_2_evaluated_104 R351 Q1 x4 u → pv_2_evaluated_104 R352 Q2 x4 u → v_2_evaluated_104 R353 Q3 x4 u := (ov_cj (hR35 _ _ _))
theorem mn_v_2_evaluated_104 {Q1 Q2 : Int → iST → Prop} {R351 R352 : Int → Int → iST → Prop} {x4 : Int} {u : iST} (hR35 : ∀ r0 r1 r2, R351 r0 r1 r2 → R352 r0 r1 r2) (hQ : ∀ r0 r1, Q1 r0 r1 → Q2 r0 r1) : pv_2_evaluated_104 R351 Q1 x4 u → pv_2_evaluated_104 R352 Q2 x4 u := (ov_mn (hR35 _ _ _))
theorem wp_v_2_evaluated_104 {Q1 Q2 : Int → iST → Prop} {R351 R352 : Int → Int → iST → Prop} {x4 : Int} {u : iST} (hR35 : ∀ r0 r1 r2, R351 r0 r1 r2 → R352 r0 r1 r2) (hQ : ∀ r0 r1, Q1 r0 r1 → Q2 r0 r1) : v_2_evaluated_104 R351 Q1 x4 u → pv_2_evaluated_104 R352 Q2 x4 u := (ov_wp (hR35 _ _ _))
def pv_2_evaluated_101 (R35 : Int → Int → iST → Prop) (Q : Int → iST → Prop) (x4 : Int) (y1 : Int) (u : iST) : Prop :=
  pv_2_hold y1 (fun u => 
  pv_2_evaluated_104 R35 Q x4 u) u
theorem cj_v_2_evaluated_101 {Q1 Q2 Q3 : Int → iST → Prop} {R351 R352 R353 : Int → Int → iST → Prop} {x4 : Int} {y1 : Int} {u : iST} (hR35 : ∀ r0 r1 r2, R351 r0 r1 r2 → R352 r0 r1 r2 → R353 r0 r1 r2) (hQ : ∀ r0 r1, Q1 r0 r1 → Q2 r0 r1 → Q3 r0 r1) : v_2_evaluated_101 R351 Q1 x4 y1 u → pv_2_evaluated_101 R352 Q2 x4 y1 u → v_2_evaluated_101 R353 Q3 x4 y1 u := (cj_v_2_hold (fun _ => (cj_v_2_evaluated_104 hR35 hQ)))
theorem mn_v_2_evaluated_101 {Q1 Q2 : Int → iST → Prop} {R351 R352 : Int → Int → iST → Prop} {x4 : Int} {y1 : Int} {u : iST} (hR35 : ∀ r0 r1 r2, R351 r0 r1 r2 → R352 r0 r1 r2) (hQ : ∀ r0 r1, Q1 r0 r1 → Q2 r0 r1) : pv_2_evaluated_101 R351 Q1 x4 y1 u → pv_2_evaluated_101 R352 Q2 x4 y1 u := (mn_v_2_hold (fun _ => (mn_v_2_evaluated_104 hR35 hQ)))
theorem wp_v_2_evaluated_101 {Q1 Q2 : Int → iST → Prop} {R351 R352 : Int → Int → iST → Prop} {x4 : Int} {y1 : Int} {u : iST} (hR35 : ∀ r0 r1 r2, R351 r0 r1 r2 → R352 r0 r1 r2) (hQ : ∀ r0 r1, Q1 r0 r1 → Q2 r0 r1) : v_2_evaluated_101 R351 Q1 x4 y1 u → pv_2_evaluated_101 R352 Q2 x4 y1 u := (wp_v_2_hold (fun _ => (wp_v_2_evaluated_104 hR35 hQ)))
def pv_2_evaluated_35b (R35 : Int → Int → iST → Prop) (Q : Int → iST → Prop) (x3 : Int) (x4 : Int) (u : iST) : Prop :=
  br (1000000 ≤ x4) (
    Q (-1) u) (
    rd (u.1 9) (fun v1 => 
    br (v1 ≠ 0) (
      Q (-1) u) (
      br (x3 = (-1)) (
        rd (u.1 4) (fun v2 => 
        br (v2 ≠ 0) (
          rd (u.1 4) (fun v3 => 
          ovp (v3 - 1) (
          pv_2_isReady (v3 - 1) (fun v5 u => 
          br (v5 = 0) (
            rd (u.1 4) (fun v6 => 
            ovp (v6 - 1) (
            pv_2_goOn (v6 - 1) (fun v8 u => 
            ovp (x4 + 1) (
            R35 v8 (x4 + 1) u)) u))) (
            rd (u.1 4) (fun v10 => 
            ovp (v10 - 1) (
            bdp (v10 - 1) 300 (rd (u.2.1 18 (v10 - 1)) (fun v12 => 
            rd (u.1 4) (fun v13 => 
            ovp (v13 - 1) (
            bdp (v13 - 1) 300 (rd (u.2.1 16 (v13 - 1)) (fun v15 => 
            bdp v12 1803 (rd (u.2.1 22 v12) (fun v16 => 
            ovp (v12 + 1) (
            bdp (v12 + 1) 1803 (rd (u.2.1 22 (v12 + 1)) (fun v18 => 
            ovp (v12 + 2) (
            bdp (v12 + 2) 1803 (rd (u.2.1 22 (v12 + 2)) (fun v20 => 
            pv_2_baseValue v15 v16 v18 v20 (fun v21 u => 
            br (v21 ≠ (-1)) (
              pv_2_evaluated_203 R35 Q x3 x4 v21 0 u) (
              pv_2_evaluated_203 R35 Q x3 x4 v21 3 u)) u)))))))))))))))))) u))) (
          bdp 0 1803 (rd (u.2.1 22 0) (fun v24 => 
          Q v24 u))))) (
        pv_7_isCall x3 (fun v25 u => 
        br (v25 = 0) (
          pv_7_isVariable x3 (fun v26 u => 
          br (v26 = 0) (
            pv_7_valueOf x3 (fun v27 u => 
            pv_2_evaluated_101 R35 Q x4 v27 u) u) (
            pv_2_parameterValue x3 (fun v30 u => 
            pv_2_evaluated_101 R35 Q x4 v30 u) u)) u) (
          pv_2_begin x3 (fun u => 
          pv_2_evaluated_104 R35 Q x4 u) u)) u))))
theorem cj_v_2_evaluated_35b {Q1 Q2 Q3 : Int → iST → Prop} {R351 R352 R353 : Int → Int → iST → Prop} {x3 : Int} {x4 : Int} {u : iST} (hR35 : ∀ r0 r1 r2, R351 r0 r1 r2 → R352 r0 r1 r2 → R353 r0 r1 r2) (hQ : ∀ r0 r1, Q1 r0 r1 → Q2 r0 r1 → Q3 r0 r1) : v_2_evaluated_35b R351 Q1 x3 x4 u → pv_2_evaluated_35b R352 Q2 x3 x4 u → v_2_evaluated_35b R353 Q3 x3 x4 u := (br_cj (hQ _ _) (rd_cj fun _ => (br_cj (hQ _ _) (br_cj (rd_cj fun _ => (br_cj (rd_cj fun _ => (ov_cj (cj_v_2_isReady (fun _ _ => (br_cj (rd_cj fun _ => (ov_cj (cj_v_2_goOn (fun _ _ => (ov_cj (hR35 _ _ _)))))) (rd_cj fun _ => (ov_cj (bd_cj (rd_cj fun _ => (rd_cj fun _ => (ov_cj (bd_cj (rd_cj fun _ => (bd_cj (rd_cj fun _ => (ov_cj (bd_cj (rd_cj fun _ => (ov_cj (bd_cj (rd_cj fun _ => (cj_v_2_baseValue (fun _ _ => (br_cj (cj_v_2_evaluated_203 hR35 hQ) (cj_v_2_evaluated_203 hR35 hQ))))))))))))))))))))))))) (bd_cj (rd_cj fun _ => (hQ _ _))))) (cj_v_7_isCall (fun _ _ => (br_cj (cj_v_7_isVariable (fun _ _ => (br_cj (cj_v_7_valueOf (fun _ _ => (cj_v_2_evaluated_101 hR35 hQ))) (cj_v_2_parameterValue (fun _ _ => (cj_v_2_evaluated_101 hR35 hQ)))))) (cj_v_2_begin (fun _ => (cj_v_2_evaluated_104 hR35 hQ))))))))))
theorem mn_v_2_evaluated_35b {Q1 Q2 : Int → iST → Prop} {R351 R352 : Int → Int → iST → Prop} {x3 : Int} {x4 : Int} {u : iST} (hR35 : ∀ r0 r1 r2, R351 r0 r1 r2 → R352 r0 r1 r2) (hQ : ∀ r0 r1, Q1 r0 r1 → Q2 r0 r1) : pv_2_evaluated_35b R351 Q1 x3 x4 u → pv_2_evaluated_35b R352 Q2 x3 x4 u := (br_mn (hQ _ _) (rd_mn fun _ => (br_mn (hQ _ _) (br_mn (rd_mn fun _ => (br_mn (rd_mn fun _ => (ov_mn (mn_v_2_isReady (fun _ _ => (br_mn (rd_mn fun _ => (ov_mn (mn_v_2_goOn (fun _ _ => (ov_mn (hR35 _ _ _)))))) (rd_mn fun _ => (ov_mn (bd_mn (rd_mn fun _ => (rd_mn fun _ => (ov_mn (bd_mn (rd_mn fun _ => (bd_mn (rd_mn fun _ => (ov_mn (bd_mn (rd_mn fun _ => (ov_mn (bd_mn (rd_mn fun _ => (mn_v_2_baseValue (fun _ _ => (br_mn (mn_v_2_evaluated_203 hR35 hQ) (mn_v_2_evaluated_203 hR35 hQ))))))))))))))))))))))))) (bd_mn (rd_mn fun _ => (hQ _ _))))) (mn_v_7_isCall (fun _ _ => (br_mn (mn_v_7_isVariable (fun _ _ => (br_mn (mn_v_7_valueOf (fun _ _ => (mn_v_2_evaluated_101 hR35 hQ))) (mn_v_2_parameterValue (fun _ _ => (mn_v_2_evaluated_101 hR35 hQ)))))) (mn_v_2_begin (fun _ => (mn_v_2_evaluated_104 hR35 hQ))))))))))
theorem wp_v_2_evaluated_35b {Q1 Q2 : Int → iST → Prop} {R351 R352 : Int → Int → iST → Prop} {x3 : Int} {x4 : Int} {u : iST} (hR35 : ∀ r0 r1 r2, R351 r0 r1 r2 → R352 r0 r1 r2) (hQ : ∀ r0 r1, Q1 r0 r1 → Q2 r0 r1) : v_2_evaluated_35b R351 Q1 x3 x4 u → pv_2_evaluated_35b R352 Q2 x3 x4 u := (br_wp (hQ _ _) (rd_wp fun _ => (br_wp (hQ _ _) (br_wp (rd_wp fun _ => (br_wp (rd_wp fun _ => (ov_wp (wp_v_2_isReady (fun _ _ => (br_wp (rd_wp fun _ => (ov_wp (wp_v_2_goOn (fun _ _ => (ov_wp (hR35 _ _ _)))))) (rd_wp fun _ => (ov_wp (bd_wp (rd_wp fun _ => (rd_wp fun _ => (ov_wp (bd_wp (rd_wp fun _ => (bd_wp (rd_wp fun _ => (ov_wp (bd_wp (rd_wp fun _ => (ov_wp (bd_wp (rd_wp fun _ => (wp_v_2_baseValue (fun _ _ => (br_wp (wp_v_2_evaluated_203 hR35 hQ) (wp_v_2_evaluated_203 hR35 hQ))))))))))))))))))))))))) (bd_wp (rd_wp fun _ => (hQ _ _))))) (wp_v_7_isCall (fun _ _ => (br_wp (wp_v_7_isVariable (fun _ _ => (br_wp (wp_v_7_valueOf (fun _ _ => (wp_v_2_evaluated_101 hR35 hQ))) (wp_v_2_parameterValue (fun _ _ => (wp_v_2_evaluated_101 hR35 hQ)))))) (wp_v_2_begin (fun _ => (wp_v_2_evaluated_104 hR35 hQ))))))))))
def pv_2_evaluated_35 (Q : Int → iST → Prop) (x3 : Int) (x4 : Int) (u : iST) : Prop := ∃ R35 : Int → Int → iST → Prop, (∀ (x3 : Int) (x4 : Int) (u : iST), R35 x3 x4 u → pv_2_evaluated_35b R35 Q x3 x4 u) ∧ R35 x3 x4 u
theorem cj_v_2_evaluated_35 {Q1 Q2 Q3 : Int → iST → Prop}  {x3 : Int} {x4 : Int} {u : iST} (hQ : ∀ r0 r1, Q1 r0 r1 → Q2 r0 r1 → Q3 r0 r1) : v_2_evaluated_35 Q1 x3 x4 u → pv_2_evaluated_35 Q2 x3 x4 u → v_2_evaluated_35 Q3 x3 x4 u := by
  intro a b R3 c3
  obtain ⟨R2, c2, b2⟩ := b
  exact a (fun r0 r1 r2 => R2 r0 r1 r2 → R3 r0 r1 r2) (fun r0 r1 r2 a b => c3 r0 r1 r2 (cj_v_2_evaluated_35b (fun r0 r1 r2 a b => a b) hQ a (c2 r0 r1 r2 b))) b2
theorem pv_2_evaluated_35_i  {Q : Int → iST → Prop} {x3 : Int} {x4 : Int} {u : iST} (I : Int → Int → iST → Prop) (s : ∀ (x3 : Int) (x4 : Int) (u : iST), I x3 x4 u → pv_2_evaluated_35b I Q x3 x4 u) (h : I x3 x4 u) : pv_2_evaluated_35 Q x3 x4 u := ⟨I, s, h⟩
theorem mn_v_2_evaluated_35 {Q1 Q2 : Int → iST → Prop}  {x3 : Int} {x4 : Int} {u : iST} (hQ : ∀ r0 r1, Q1 r0 r1 → Q2 r0 r1) : pv_2_evaluated_35 Q1 x3 x4 u → pv_2_evaluated_35 Q2 x3 x4 u := fun ⟨R, s, h⟩ => ⟨R, fun r0 r1 r2 a => mn_v_2_evaluated_35b (fun r0 r1 r2 a => a) hQ (s r0 r1 r2 a), h⟩
theorem un_v_2_evaluated_35  {Q : Int → iST → Prop} {x3 : Int} {x4 : Int} {u : iST} : pv_2_evaluated_35 Q x3 x4 u → pv_2_evaluated_35b (fun x3 x4 u => pv_2_evaluated_35 Q x3 x4 u) Q x3 x4 u := fun ⟨R, s, h⟩ => mn_v_2_evaluated_35b (fun r0 r1 r2 a => ⟨R, s, a⟩) (fun _ _ h => h) (s _ _ _ h)
theorem fo_v_2_evaluated_35  {Q : Int → iST → Prop} {x3 : Int} {x4 : Int} {u : iST} : pv_2_evaluated_35b (fun x3 x4 u => pv_2_evaluated_35 Q x3 x4 u) Q x3 x4 u → pv_2_evaluated_35 Q x3 x4 u := fun h => ⟨fun x3 x4 u => pv_2_evaluated_35b (fun x3 x4 u => pv_2_evaluated_35 Q x3 x4 u) Q x3 x4 u, fun r0 r1 r2 a => mn_v_2_evaluated_35b (fun r0 r1 r2 a => un_v_2_evaluated_35 a) (fun _ _ h => h) a, h⟩
theorem wp_v_2_evaluated_35 {Q1 Q2 : Int → iST → Prop}  {x3 : Int} {x4 : Int} {u : iST} (hQ : ∀ r0 r1, Q1 r0 r1 → Q2 r0 r1) : v_2_evaluated_35 Q1 x3 x4 u → pv_2_evaluated_35 Q2 x3 x4 u := fun a => a (fun x3 x4 u => pv_2_evaluated_35 Q2 x3 x4 u) (fun x3 x4 u b => fo_v_2_evaluated_35 (wp_v_2_evaluated_35b (fun r0 r1 r2 a => a) hQ b))
def pv_2_evaluated (a0 : Int) (a1 : Int) (Q : Int → iST → Prop) (u : iST) : Prop :=
  sw (iI u 4 0) (fun u => 
  sw (iI u 5 0) (fun u => 
  sw (iI u 6 (-1)) (fun u => 
  sw (iI u 7 0) (fun u => 
  sw (iI u 8 a1) (fun u => 
  sw (iI u 9 0) (fun u => 
  pv_2_evaluated_35 Q a0 0 u))))))
theorem cj_v_2_evaluated {Q1 Q2 Q3 : Int → iST → Prop}  {a0 : Int} {a1 : Int} {u : iST} (hQ : ∀ r0 r1, Q1 r0 r1 → Q2 r0 r1 → Q3 r0 r1) : v_2_evaluated a0 a1 Q1 u → pv_2_evaluated a0 a1 Q2 u → v_2_evaluated a0 a1 Q3 u := (sw_cj fun _ => (sw_cj fun _ => (sw_cj fun _ => (sw_cj fun _ => (sw_cj fun _ => (sw_cj fun _ => (cj_v_2_evaluated_35  hQ)))))))
theorem mn_v_2_evaluated {Q1 Q2 : Int → iST → Prop}  {a0 : Int} {a1 : Int} {u : iST} (hQ : ∀ r0 r1, Q1 r0 r1 → Q2 r0 r1) : pv_2_evaluated a0 a1 Q1 u → pv_2_evaluated a0 a1 Q2 u := (sw_mn fun _ => (sw_mn fun _ => (sw_mn fun _ => (sw_mn fun _ => (sw_mn fun _ => (sw_mn fun _ => (mn_v_2_evaluated_35  hQ)))))))
theorem wp_v_2_evaluated {Q1 Q2 : Int → iST → Prop}  {a0 : Int} {a1 : Int} {u : iST} (hQ : ∀ r0 r1, Q1 r0 r1 → Q2 r0 r1) : v_2_evaluated a0 a1 Q1 u → pv_2_evaluated a0 a1 Q2 u := (sw_wp fun _ => (sw_wp fun _ => (sw_wp fun _ => (sw_wp fun _ => (sw_wp fun _ => (sw_wp fun _ => (wp_v_2_evaluated_35  hQ)))))))
def pv_7_blame (a0 : Int) (Q : iST → Prop) (u : iST) : Prop :=
  rd (u.1 32) (fun v1 => 
  br (v1 ≠ 0) (
    Q u) (
    sw (iI u 32 a0) (fun u => 
    Q u)))
theorem cj_v_7_blame {Q1 Q2 Q3 : iST → Prop}  {a0 : Int} {u : iST} (hQ : ∀ r0, Q1 r0 → Q2 r0 → Q3 r0) : v_7_blame a0 Q1 u → pv_7_blame a0 Q2 u → v_7_blame a0 Q3 u := (rd_cj fun _ => (br_cj (hQ _) (sw_cj fun _ => (hQ _))))
theorem mn_v_7_blame {Q1 Q2 : iST → Prop}  {a0 : Int} {u : iST} (hQ : ∀ r0, Q1 r0 → Q2 r0) : pv_7_blame a0 Q1 u → pv_7_blame a0 Q2 u := (rd_mn fun _ => (br_mn (hQ _) (sw_mn fun _ => (hQ _))))
theorem wp_v_7_blame {Q1 Q2 : iST → Prop}  {a0 : Int} {u : iST} (hQ : ∀ r0, Q1 r0 → Q2 r0) : v_7_blame a0 Q1 u → pv_7_blame a0 Q2 u := (rd_wp fun _ => (br_wp (hQ _) (sw_wp fun _ => (hQ _))))
def pv_7_lengthOf_44 (Q : Int → iST → Prop) (x2 : Int) (x3 : Int) (u : iST) : Prop :=
  br (x3 ≠ 0) (
    Q (-1) u) (
    Q x2 u)
theorem cj_v_7_lengthOf_44 {Q1 Q2 Q3 : Int → iST → Prop}  {x2 : Int} {x3 : Int} {u : iST} (hQ : ∀ r0 r1, Q1 r0 r1 → Q2 r0 r1 → Q3 r0 r1) : v_7_lengthOf_44 Q1 x2 x3 u → pv_7_lengthOf_44 Q2 x2 x3 u → v_7_lengthOf_44 Q3 x2 x3 u := (br_cj (hQ _ _) (hQ _ _))
theorem mn_v_7_lengthOf_44 {Q1 Q2 : Int → iST → Prop}  {x2 : Int} {x3 : Int} {u : iST} (hQ : ∀ r0 r1, Q1 r0 r1 → Q2 r0 r1) : pv_7_lengthOf_44 Q1 x2 x3 u → pv_7_lengthOf_44 Q2 x2 x3 u := (br_mn (hQ _ _) (hQ _ _))
theorem wp_v_7_lengthOf_44 {Q1 Q2 : Int → iST → Prop}  {x2 : Int} {x3 : Int} {u : iST} (hQ : ∀ r0 r1, Q1 r0 r1 → Q2 r0 r1) : v_7_lengthOf_44 Q1 x2 x3 u → pv_7_lengthOf_44 Q2 x2 x3 u := (br_wp (hQ _ _) (hQ _ _))
def pv_7_lengthOf_4b (R4 : Int → Int → iST → Prop) (Q : Int → iST → Prop) (x2 : Int) (x3 : Int) (u : iST) : Prop :=
  br (x3 < 0) (
    pv_7_lengthOf_44 Q x2 x3 u) (
    rd (u.1 29) (fun v1 => 
    br (v1 ≤ x3) (
      pv_7_lengthOf_44 Q x2 x3 u) (
      bdp x3 160000 (rl (u.2.2 x3) (fun v2 => 
      br (0 ≤ v2) (
        pv_7_lengthOf_44 Q x2 x3 u) (
        bdp x3 160000 (rl (u.2.2 x3) (fun v3 => 
        rd (wl2i v3) (fun v4 => 
        rd (wand v4 2147483647) (fun v5 => 
        ovp (x2 + 1) (
        R4 (x2 + 1) v5 u)))))))))))
theorem cj_v_7_lengthOf_4b {Q1 Q2 Q3 : Int → iST → Prop} {R41 R42 R43 : Int → Int → iST → Prop} {x2 : Int} {x3 : Int} {u : iST} (hR4 : ∀ r0 r1 r2, R41 r0 r1 r2 → R42 r0 r1 r2 → R43 r0 r1 r2) (hQ : ∀ r0 r1, Q1 r0 r1 → Q2 r0 r1 → Q3 r0 r1) : v_7_lengthOf_4b R41 Q1 x2 x3 u → pv_7_lengthOf_4b R42 Q2 x2 x3 u → v_7_lengthOf_4b R43 Q3 x2 x3 u := (br_cj (cj_v_7_lengthOf_44  hQ) (rd_cj fun _ => (br_cj (cj_v_7_lengthOf_44  hQ) (bd_cj (rl_cj fun _ => (br_cj (cj_v_7_lengthOf_44  hQ) (bd_cj (rl_cj fun _ => (rd_cj fun _ => (rd_cj fun _ => (ov_cj (hR4 _ _ _))))))))))))
theorem mn_v_7_lengthOf_4b {Q1 Q2 : Int → iST → Prop} {R41 R42 : Int → Int → iST → Prop} {x2 : Int} {x3 : Int} {u : iST} (hR4 : ∀ r0 r1 r2, R41 r0 r1 r2 → R42 r0 r1 r2) (hQ : ∀ r0 r1, Q1 r0 r1 → Q2 r0 r1) : pv_7_lengthOf_4b R41 Q1 x2 x3 u → pv_7_lengthOf_4b R42 Q2 x2 x3 u := (br_mn (mn_v_7_lengthOf_44  hQ) (rd_mn fun _ => (br_mn (mn_v_7_lengthOf_44  hQ) (bd_mn (rl_mn fun _ => (br_mn (mn_v_7_lengthOf_44  hQ) (bd_mn (rl_mn fun _ => (rd_mn fun _ => (rd_mn fun _ => (ov_mn (hR4 _ _ _))))))))))))
theorem wp_v_7_lengthOf_4b {Q1 Q2 : Int → iST → Prop} {R41 R42 : Int → Int → iST → Prop} {x2 : Int} {x3 : Int} {u : iST} (hR4 : ∀ r0 r1 r2, R41 r0 r1 r2 → R42 r0 r1 r2) (hQ : ∀ r0 r1, Q1 r0 r1 → Q2 r0 r1) : v_7_lengthOf_4b R41 Q1 x2 x3 u → pv_7_lengthOf_4b R42 Q2 x2 x3 u := (br_wp (wp_v_7_lengthOf_44  hQ) (rd_wp fun _ => (br_wp (wp_v_7_lengthOf_44  hQ) (bd_wp (rl_wp fun _ => (br_wp (wp_v_7_lengthOf_44  hQ) (bd_wp (rl_wp fun _ => (rd_wp fun _ => (rd_wp fun _ => (ov_wp (hR4 _ _ _))))))))))))
def pv_7_lengthOf_4 (Q : Int → iST → Prop) (x2 : Int) (x3 : Int) (u : iST) : Prop := ∃ R4 : Int → Int → iST → Prop, (∀ (x2 : Int) (x3 : Int) (u : iST), R4 x2 x3 u → pv_7_lengthOf_4b R4 Q x2 x3 u) ∧ R4 x2 x3 u
theorem cj_v_7_lengthOf_4 {Q1 Q2 Q3 : Int → iST → Prop}  {x2 : Int} {x3 : Int} {u : iST} (hQ : ∀ r0 r1, Q1 r0 r1 → Q2 r0 r1 → Q3 r0 r1) : v_7_lengthOf_4 Q1 x2 x3 u → pv_7_lengthOf_4 Q2 x2 x3 u → v_7_lengthOf_4 Q3 x2 x3 u := by
  intro a b R3 c3
  obtain ⟨R2, c2, b2⟩ := b
  exact a (fun r0 r1 r2 => R2 r0 r1 r2 → R3 r0 r1 r2) (fun r0 r1 r2 a b => c3 r0 r1 r2 (cj_v_7_lengthOf_4b (fun r0 r1 r2 a b => a b) hQ a (c2 r0 r1 r2 b))) b2
theorem pv_7_lengthOf_4_i  {Q : Int → iST → Prop} {x2 : Int} {x3 : Int} {u : iST} (I : Int → Int → iST → Prop) (s : ∀ (x2 : Int) (x3 : Int) (u : iST), I x2 x3 u → pv_7_lengthOf_4b I Q x2 x3 u) (h : I x2 x3 u) : pv_7_lengthOf_4 Q x2 x3 u := ⟨I, s, h⟩
theorem mn_v_7_lengthOf_4 {Q1 Q2 : Int → iST → Prop}  {x2 : Int} {x3 : Int} {u : iST} (hQ : ∀ r0 r1, Q1 r0 r1 → Q2 r0 r1) : pv_7_lengthOf_4 Q1 x2 x3 u → pv_7_lengthOf_4 Q2 x2 x3 u := fun ⟨R, s, h⟩ => ⟨R, fun r0 r1 r2 a => mn_v_7_lengthOf_4b (fun r0 r1 r2 a => a) hQ (s r0 r1 r2 a), h⟩
theorem un_v_7_lengthOf_4  {Q : Int → iST → Prop} {x2 : Int} {x3 : Int} {u : iST} : pv_7_lengthOf_4 Q x2 x3 u → pv_7_lengthOf_4b (fun x2 x3 u => pv_7_lengthOf_4 Q x2 x3 u) Q x2 x3 u := fun ⟨R, s, h⟩ => mn_v_7_lengthOf_4b (fun r0 r1 r2 a => ⟨R, s, a⟩) (fun _ _ h => h) (s _ _ _ h)
theorem fo_v_7_lengthOf_4  {Q : Int → iST → Prop} {x2 : Int} {x3 : Int} {u : iST} : pv_7_lengthOf_4b (fun x2 x3 u => pv_7_lengthOf_4 Q x2 x3 u) Q x2 x3 u → pv_7_lengthOf_4 Q x2 x3 u := fun h => ⟨fun x2 x3 u => pv_7_lengthOf_4b (fun x2 x3 u => pv_7_lengthOf_4 Q x2 x3 u) Q x2 x3 u, fun r0 r1 r2 a => mn_v_7_lengthOf_4b (fun r0 r1 r2 a => un_v_7_lengthOf_4 a) (fun _ _ h => h) a, h⟩
theorem wp_v_7_lengthOf_4 {Q1 Q2 : Int → iST → Prop}  {x2 : Int} {x3 : Int} {u : iST} (hQ : ∀ r0 r1, Q1 r0 r1 → Q2 r0 r1) : v_7_lengthOf_4 Q1 x2 x3 u → pv_7_lengthOf_4 Q2 x2 x3 u := fun a => a (fun x2 x3 u => pv_7_lengthOf_4 Q2 x2 x3 u) (fun x2 x3 u b => fo_v_7_lengthOf_4 (wp_v_7_lengthOf_4b (fun r0 r1 r2 a => a) hQ b))
def pv_7_lengthOf (a0 : Int) (Q : Int → iST → Prop) (u : iST) : Prop :=
  pv_7_lengthOf_4 Q 0 a0 u
theorem cj_v_7_lengthOf {Q1 Q2 Q3 : Int → iST → Prop}  {a0 : Int} {u : iST} (hQ : ∀ r0 r1, Q1 r0 r1 → Q2 r0 r1 → Q3 r0 r1) : v_7_lengthOf a0 Q1 u → pv_7_lengthOf a0 Q2 u → v_7_lengthOf a0 Q3 u := (cj_v_7_lengthOf_4  hQ)
theorem mn_v_7_lengthOf {Q1 Q2 : Int → iST → Prop}  {a0 : Int} {u : iST} (hQ : ∀ r0 r1, Q1 r0 r1 → Q2 r0 r1) : pv_7_lengthOf a0 Q1 u → pv_7_lengthOf a0 Q2 u := (mn_v_7_lengthOf_4  hQ)
theorem wp_v_7_lengthOf {Q1 Q2 : Int → iST → Prop}  {a0 : Int} {u : iST} (hQ : ∀ r0 r1, Q1 r0 r1 → Q2 r0 r1) : v_7_lengthOf a0 Q1 u → pv_7_lengthOf a0 Q2 u := (wp_v_7_lengthOf_4  hQ)
def pv_7_item_5b (R5 : Int → Int → Int → iST → Prop) (Q : Int → iST → Prop) (x2 : Int) (x3 : Int) (x4 : Int) (u : iST) : Prop :=
  br (x2 ≤ x4) (
    br (x3 < 0) (
      Q 0 u) (
      rd (u.1 29) (fun v1 => 
      br (v1 ≤ x3) (
        Q 0 u) (
        bdp x3 160000 (rl (u.2.2 x3) (fun v2 => 
        br (0 ≤ v2) (
          Q 0 u) (
          bdp x3 160000 (rl (u.2.2 x3) (fun v3 => 
          rl (wlushr v3 31) (fun v4 => 
          rd (wl2i v4) (fun v5 => 
          rd (wand v5 2147483647) (fun v6 => 
          Q v6 u)))))))))))) (
    br (x3 < 0) (
      ovp (x4 + 1) (
      R5 x2 0 (x4 + 1) u)) (
      rd (u.1 29) (fun v8 => 
      br (v8 ≤ x3) (
        ovp (x4 + 1) (
        R5 x2 0 (x4 + 1) u)) (
        bdp x3 160000 (rl (u.2.2 x3) (fun v10 => 
        br (0 ≤ v10) (
          ovp (x4 + 1) (
          R5 x2 0 (x4 + 1) u)) (
          bdp x3 160000 (rl (u.2.2 x3) (fun v12 => 
          rd (wl2i v12) (fun v13 => 
          rd (wand v13 2147483647) (fun v14 => 
          ovp (x4 + 1) (
          R5 x2 v14 (x4 + 1) u))))))))))))
theorem cj_v_7_item_5b {Q1 Q2 Q3 : Int → iST → Prop} {R51 R52 R53 : Int → Int → Int → iST → Prop} {x2 : Int} {x3 : Int} {x4 : Int} {u : iST} (hR5 : ∀ r0 r1 r2 r3, R51 r0 r1 r2 r3 → R52 r0 r1 r2 r3 → R53 r0 r1 r2 r3) (hQ : ∀ r0 r1, Q1 r0 r1 → Q2 r0 r1 → Q3 r0 r1) : v_7_item_5b R51 Q1 x2 x3 x4 u → pv_7_item_5b R52 Q2 x2 x3 x4 u → v_7_item_5b R53 Q3 x2 x3 x4 u := (br_cj (br_cj (hQ _ _) (rd_cj fun _ => (br_cj (hQ _ _) (bd_cj (rl_cj fun _ => (br_cj (hQ _ _) (bd_cj (rl_cj fun _ => (rl_cj fun _ => (rd_cj fun _ => (rd_cj fun _ => (hQ _ _)))))))))))) (br_cj (ov_cj (hR5 _ _ _ _)) (rd_cj fun _ => (br_cj (ov_cj (hR5 _ _ _ _)) (bd_cj (rl_cj fun _ => (br_cj (ov_cj (hR5 _ _ _ _)) (bd_cj (rl_cj fun _ => (rd_cj fun _ => (rd_cj fun _ => (ov_cj (hR5 _ _ _ _)))))))))))))
theorem mn_v_7_item_5b {Q1 Q2 : Int → iST → Prop} {R51 R52 : Int → Int → Int → iST → Prop} {x2 : Int} {x3 : Int} {x4 : Int} {u : iST} (hR5 : ∀ r0 r1 r2 r3, R51 r0 r1 r2 r3 → R52 r0 r1 r2 r3) (hQ : ∀ r0 r1, Q1 r0 r1 → Q2 r0 r1) : pv_7_item_5b R51 Q1 x2 x3 x4 u → pv_7_item_5b R52 Q2 x2 x3 x4 u := (br_mn (br_mn (hQ _ _) (rd_mn fun _ => (br_mn (hQ _ _) (bd_mn (rl_mn fun _ => (br_mn (hQ _ _) (bd_mn (rl_mn fun _ => (rl_mn fun _ => (rd_mn fun _ => (rd_mn fun _ => (hQ _ _)))))))))))) (br_mn (ov_mn (hR5 _ _ _ _)) (rd_mn fun _ => (br_mn (ov_mn (hR5 _ _ _ _)) (bd_mn (rl_mn fun _ => (br_mn (ov_mn (hR5 _ _ _ _)) (bd_mn (rl_mn fun _ => (rd_mn fun _ => (rd_mn fun _ => (ov_mn (hR5 _ _ _ _)))))))))))))
theorem wp_v_7_item_5b {Q1 Q2 : Int → iST → Prop} {R51 R52 : Int → Int → Int → iST → Prop} {x2 : Int} {x3 : Int} {x4 : Int} {u : iST} (hR5 : ∀ r0 r1 r2 r3, R51 r0 r1 r2 r3 → R52 r0 r1 r2 r3) (hQ : ∀ r0 r1, Q1 r0 r1 → Q2 r0 r1) : v_7_item_5b R51 Q1 x2 x3 x4 u → pv_7_item_5b R52 Q2 x2 x3 x4 u := (br_wp (br_wp (hQ _ _) (rd_wp fun _ => (br_wp (hQ _ _) (bd_wp (rl_wp fun _ => (br_wp (hQ _ _) (bd_wp (rl_wp fun _ => (rl_wp fun _ => (rd_wp fun _ => (rd_wp fun _ => (hQ _ _)))))))))))) (br_wp (ov_wp (hR5 _ _ _ _)) (rd_wp fun _ => (br_wp (ov_wp (hR5 _ _ _ _)) (bd_wp (rl_wp fun _ => (br_wp (ov_wp (hR5 _ _ _ _)) (bd_wp (rl_wp fun _ => (rd_wp fun _ => (rd_wp fun _ => (ov_wp (hR5 _ _ _ _)))))))))))))
def pv_7_item_5 (Q : Int → iST → Prop) (x2 : Int) (x3 : Int) (x4 : Int) (u : iST) : Prop := ∃ R5 : Int → Int → Int → iST → Prop, (∀ (x2 : Int) (x3 : Int) (x4 : Int) (u : iST), R5 x2 x3 x4 u → pv_7_item_5b R5 Q x2 x3 x4 u) ∧ R5 x2 x3 x4 u
theorem cj_v_7_item_5 {Q1 Q2 Q3 : Int → iST → Prop}  {x2 : Int} {x3 : Int} {x4 : Int} {u : iST} (hQ : ∀ r0 r1, Q1 r0 r1 → Q2 r0 r1 → Q3 r0 r1) : v_7_item_5 Q1 x2 x3 x4 u → pv_7_item_5 Q2 x2 x3 x4 u → v_7_item_5 Q3 x2 x3 x4 u := by
  intro a b R3 c3
  obtain ⟨R2, c2, b2⟩ := b
  exact a (fun r0 r1 r2 r3 => R2 r0 r1 r2 r3 → R3 r0 r1 r2 r3) (fun r0 r1 r2 r3 a b => c3 r0 r1 r2 r3 (cj_v_7_item_5b (fun r0 r1 r2 r3 a b => a b) hQ a (c2 r0 r1 r2 r3 b))) b2
theorem pv_7_item_5_i  {Q : Int → iST → Prop} {x2 : Int} {x3 : Int} {x4 : Int} {u : iST} (I : Int → Int → Int → iST → Prop) (s : ∀ (x2 : Int) (x3 : Int) (x4 : Int) (u : iST), I x2 x3 x4 u → pv_7_item_5b I Q x2 x3 x4 u) (h : I x2 x3 x4 u) : pv_7_item_5 Q x2 x3 x4 u := ⟨I, s, h⟩
theorem mn_v_7_item_5 {Q1 Q2 : Int → iST → Prop}  {x2 : Int} {x3 : Int} {x4 : Int} {u : iST} (hQ : ∀ r0 r1, Q1 r0 r1 → Q2 r0 r1) : pv_7_item_5 Q1 x2 x3 x4 u → pv_7_item_5 Q2 x2 x3 x4 u := fun ⟨R, s, h⟩ => ⟨R, fun r0 r1 r2 r3 a => mn_v_7_item_5b (fun r0 r1 r2 r3 a => a) hQ (s r0 r1 r2 r3 a), h⟩
theorem un_v_7_item_5  {Q : Int → iST → Prop} {x2 : Int} {x3 : Int} {x4 : Int} {u : iST} : pv_7_item_5 Q x2 x3 x4 u → pv_7_item_5b (fun x2 x3 x4 u => pv_7_item_5 Q x2 x3 x4 u) Q x2 x3 x4 u := fun ⟨R, s, h⟩ => mn_v_7_item_5b (fun r0 r1 r2 r3 a => ⟨R, s, a⟩) (fun _ _ h => h) (s _ _ _ _ h)
theorem fo_v_7_item_5  {Q : Int → iST → Prop} {x2 : Int} {x3 : Int} {x4 : Int} {u : iST} : pv_7_item_5b (fun x2 x3 x4 u => pv_7_item_5 Q x2 x3 x4 u) Q x2 x3 x4 u → pv_7_item_5 Q x2 x3 x4 u := fun h => ⟨fun x2 x3 x4 u => pv_7_item_5b (fun x2 x3 x4 u => pv_7_item_5 Q x2 x3 x4 u) Q x2 x3 x4 u, fun r0 r1 r2 r3 a => mn_v_7_item_5b (fun r0 r1 r2 r3 a => un_v_7_item_5 a) (fun _ _ h => h) a, h⟩
theorem wp_v_7_item_5 {Q1 Q2 : Int → iST → Prop}  {x2 : Int} {x3 : Int} {x4 : Int} {u : iST} (hQ : ∀ r0 r1, Q1 r0 r1 → Q2 r0 r1) : v_7_item_5 Q1 x2 x3 x4 u → pv_7_item_5 Q2 x2 x3 x4 u := fun a => a (fun x2 x3 x4 u => pv_7_item_5 Q2 x2 x3 x4 u) (fun x2 x3 x4 u b => fo_v_7_item_5 (wp_v_7_item_5b (fun r0 r1 r2 r3 a => a) hQ b))
def pv_7_item (a0 : Int) (a1 : Int) (Q : Int → iST → Prop) (u : iST) : Prop :=
  pv_7_item_5 Q a1 a0 0 u
theorem cj_v_7_item {Q1 Q2 Q3 : Int → iST → Prop}  {a0 : Int} {a1 : Int} {u : iST} (hQ : ∀ r0 r1, Q1 r0 r1 → Q2 r0 r1 → Q3 r0 r1) : v_7_item a0 a1 Q1 u → pv_7_item a0 a1 Q2 u → v_7_item a0 a1 Q3 u := (cj_v_7_item_5  hQ)
theorem mn_v_7_item {Q1 Q2 : Int → iST → Prop}  {a0 : Int} {a1 : Int} {u : iST} (hQ : ∀ r0 r1, Q1 r0 r1 → Q2 r0 r1) : pv_7_item a0 a1 Q1 u → pv_7_item a0 a1 Q2 u := (mn_v_7_item_5  hQ)
theorem wp_v_7_item {Q1 Q2 : Int → iST → Prop}  {a0 : Int} {a1 : Int} {u : iST} (hQ : ∀ r0 r1, Q1 r0 r1 → Q2 r0 r1) : v_7_item a0 a1 Q1 u → pv_7_item a0 a1 Q2 u := (wp_v_7_item_5  hQ)
def pv_7_isQuoted (a0 : Int) (Q : Int → iST → Prop) (u : iST) : Prop :=
  br (a0 < 0) (
    ztp 0 (Q 0 u)) (
    rd (u.1 29) (fun v1 => 
    br (v1 ≤ a0) (
      ztp 0 (Q 0 u)) (
      bdp a0 160000 (rl (u.2.2 a0) (fun v2 => 
      br (0 ≤ v2) (
        ztp 0 (Q 0 u)) (
        bdp a0 160000 (rl (u.2.2 a0) (fun v3 => 
        rl (wlushr v3 31) (fun v4 => 
        rd (wl2i v4) (fun v5 => 
        rd (wand v5 2147483647) (fun v6 => 
        br (v6 = 2) (
          bdp a0 160000 (rl (u.2.2 a0) (fun v7 => 
          rd (wl2i v7) (fun v8 => 
          rd (wand v8 2147483647) (fun v9 => 
          bdp v9 160000 (rl (u.2.2 v9) (fun v10 => 
          br (0 ≤ v10) (
            ztp 0 (Q 0 u)) (
            rd (wl2i v10) (fun v11 => 
            rd (wand v11 2147483647) (fun v12 => 
            br (v12 ≠ 0) (
              ztp 0 (Q 0 u)) (
              ztp 1 (Q 1 u)))))))))))) (
          ztp 0 (Q 0 u)))))))))))))
theorem cj_v_7_isQuoted {Q1 Q2 Q3 : Int → iST → Prop}  {a0 : Int} {u : iST} (hQ : ∀ r0 r1, Q1 r0 r1 → Q2 r0 r1 → Q3 r0 r1) : v_7_isQuoted a0 Q1 u → pv_7_isQuoted a0 Q2 u → v_7_isQuoted a0 Q3 u := (br_cj (zt_cj (hQ _ _)) (rd_cj fun _ => (br_cj (zt_cj (hQ _ _)) (bd_cj (rl_cj fun _ => (br_cj (zt_cj (hQ _ _)) (bd_cj (rl_cj fun _ => (rl_cj fun _ => (rd_cj fun _ => (rd_cj fun _ => (br_cj (bd_cj (rl_cj fun _ => (rd_cj fun _ => (rd_cj fun _ => (bd_cj (rl_cj fun _ => (br_cj (zt_cj (hQ _ _)) (rd_cj fun _ => (rd_cj fun _ => (br_cj (zt_cj (hQ _ _)) (zt_cj (hQ _ _)))))))))))) (zt_cj (hQ _ _))))))))))))))
theorem mn_v_7_isQuoted {Q1 Q2 : Int → iST → Prop}  {a0 : Int} {u : iST} (hQ : ∀ r0 r1, Q1 r0 r1 → Q2 r0 r1) : pv_7_isQuoted a0 Q1 u → pv_7_isQuoted a0 Q2 u := (br_mn (zt_mn (hQ _ _)) (rd_mn fun _ => (br_mn (zt_mn (hQ _ _)) (bd_mn (rl_mn fun _ => (br_mn (zt_mn (hQ _ _)) (bd_mn (rl_mn fun _ => (rl_mn fun _ => (rd_mn fun _ => (rd_mn fun _ => (br_mn (bd_mn (rl_mn fun _ => (rd_mn fun _ => (rd_mn fun _ => (bd_mn (rl_mn fun _ => (br_mn (zt_mn (hQ _ _)) (rd_mn fun _ => (rd_mn fun _ => (br_mn (zt_mn (hQ _ _)) (zt_mn (hQ _ _)))))))))))) (zt_mn (hQ _ _))))))))))))))
theorem wp_v_7_isQuoted {Q1 Q2 : Int → iST → Prop}  {a0 : Int} {u : iST} (hQ : ∀ r0 r1, Q1 r0 r1 → Q2 r0 r1) : v_7_isQuoted a0 Q1 u → pv_7_isQuoted a0 Q2 u := (br_wp (zt_wp (hQ _ _)) (rd_wp fun _ => (br_wp (zt_wp (hQ _ _)) (bd_wp (rl_wp fun _ => (br_wp (zt_wp (hQ _ _)) (bd_wp (rl_wp fun _ => (rl_wp fun _ => (rd_wp fun _ => (rd_wp fun _ => (br_wp (bd_wp (rl_wp fun _ => (rd_wp fun _ => (rd_wp fun _ => (bd_wp (rl_wp fun _ => (br_wp (zt_wp (hQ _ _)) (rd_wp fun _ => (rd_wp fun _ => (br_wp (zt_wp (hQ _ _)) (zt_wp (hQ _ _)))))))))))) (zt_wp (hQ _ _))))))))))))))
def pv_10_readMeaning_108 (Q : Int → iST → Prop) (x1 : Int) (y0 : Int) (u : iST) : Prop :=
  br (y0 = (-1)) (
    Q (-1) u) (
    pv_7_right x1 (fun v5 u => 
    pv_7_lengthOf v5 (fun v6 u => 
    br (v6 ≠ y0) (
      Q (-1) u) (
      Q (-2) u)) u) u)
theorem cj_v_10_readMeaning_108 {Q1 Q2 Q3 : Int → iST → Prop}  {x1 : Int} {y0 : Int} {u : iST} (hQ : ∀ r0 r1, Q1 r0 r1 → Q2 r0 r1 → Q3 r0 r1) : v_10_readMeaning_108 Q1 x1 y0 u → pv_10_readMeaning_108 Q2 x1 y0 u → v_10_readMeaning_108 Q3 x1 y0 u := (br_cj (hQ _ _) (cj_v_7_right (fun _ _ => (cj_v_7_lengthOf (fun _ _ => (br_cj (hQ _ _) (hQ _ _)))))))
theorem mn_v_10_readMeaning_108 {Q1 Q2 : Int → iST → Prop}  {x1 : Int} {y0 : Int} {u : iST} (hQ : ∀ r0 r1, Q1 r0 r1 → Q2 r0 r1) : pv_10_readMeaning_108 Q1 x1 y0 u → pv_10_readMeaning_108 Q2 x1 y0 u := (br_mn (hQ _ _) (mn_v_7_right (fun _ _ => (mn_v_7_lengthOf (fun _ _ => (br_mn (hQ _ _) (hQ _ _)))))))
theorem wp_v_10_readMeaning_108 {Q1 Q2 : Int → iST → Prop}  {x1 : Int} {y0 : Int} {u : iST} (hQ : ∀ r0 r1, Q1 r0 r1 → Q2 r0 r1) : v_10_readMeaning_108 Q1 x1 y0 u → pv_10_readMeaning_108 Q2 x1 y0 u := (br_wp (hQ _ _) (wp_v_7_right (fun _ _ => (wp_v_7_lengthOf (fun _ _ => (br_wp (hQ _ _) (hQ _ _)))))))
def pv_10_readMeaning_57 (Q : Int → iST → Prop) (x1 : Int) (x3 : Int) (y0 : Int) (u : iST) : Prop :=
  pv_7_isQuoted x1 (fun v9 u => 
  br (v9 ≠ 0) (
    br (y0 = 0) (
      Q x1 u) (
      Q x3 u)) (
    Q (-1) u)) u
theorem cj_v_10_readMeaning_57 {Q1 Q2 Q3 : Int → iST → Prop}  {x1 : Int} {x3 : Int} {y0 : Int} {u : iST} (hQ : ∀ r0 r1, Q1 r0 r1 → Q2 r0 r1 → Q3 r0 r1) : v_10_readMeaning_57 Q1 x1 x3 y0 u → pv_10_readMeaning_57 Q2 x1 x3 y0 u → v_10_readMeaning_57 Q3 x1 x3 y0 u := (cj_v_7_isQuoted (fun _ _ => (br_cj (br_cj (hQ _ _) (hQ _ _)) (hQ _ _))))
theorem mn_v_10_readMeaning_57 {Q1 Q2 : Int → iST → Prop}  {x1 : Int} {x3 : Int} {y0 : Int} {u : iST} (hQ : ∀ r0 r1, Q1 r0 r1 → Q2 r0 r1) : pv_10_readMeaning_57 Q1 x1 x3 y0 u → pv_10_readMeaning_57 Q2 x1 x3 y0 u := (mn_v_7_isQuoted (fun _ _ => (br_mn (br_mn (hQ _ _) (hQ _ _)) (hQ _ _))))
theorem wp_v_10_readMeaning_57 {Q1 Q2 : Int → iST → Prop}  {x1 : Int} {x3 : Int} {y0 : Int} {u : iST} (hQ : ∀ r0 r1, Q1 r0 r1 → Q2 r0 r1) : v_10_readMeaning_57 Q1 x1 x3 y0 u → pv_10_readMeaning_57 Q2 x1 x3 y0 u := (wp_v_7_isQuoted (fun _ _ => (br_wp (br_wp (hQ _ _) (hQ _ _)) (hQ _ _))))
def pv_10_readMeaning_52 (Q : Int → iST → Prop) (x1 : Int) (x3 : Int) (u : iST) : Prop :=
  pv_10_readMeaning_57 Q x1 x3 1 u
theorem cj_v_10_readMeaning_52 {Q1 Q2 Q3 : Int → iST → Prop}  {x1 : Int} {x3 : Int} {u : iST} (hQ : ∀ r0 r1, Q1 r0 r1 → Q2 r0 r1 → Q3 r0 r1) : v_10_readMeaning_52 Q1 x1 x3 u → pv_10_readMeaning_52 Q2 x1 x3 u → v_10_readMeaning_52 Q3 x1 x3 u := (cj_v_10_readMeaning_57  hQ)
theorem mn_v_10_readMeaning_52 {Q1 Q2 : Int → iST → Prop}  {x1 : Int} {x3 : Int} {u : iST} (hQ : ∀ r0 r1, Q1 r0 r1 → Q2 r0 r1) : pv_10_readMeaning_52 Q1 x1 x3 u → pv_10_readMeaning_52 Q2 x1 x3 u := (mn_v_10_readMeaning_57  hQ)
theorem wp_v_10_readMeaning_52 {Q1 Q2 : Int → iST → Prop}  {x1 : Int} {x3 : Int} {u : iST} (hQ : ∀ r0 r1, Q1 r0 r1 → Q2 r0 r1) : v_10_readMeaning_52 Q1 x1 x3 u → pv_10_readMeaning_52 Q2 x1 x3 u := (wp_v_10_readMeaning_57  hQ)
def pv_10_readMeaning (a0 : Int) (Q : Int → iST → Prop) (u : iST) : Prop :=
  pv_7_isPair a0 (fun v1 u => 
  br (v1 ≠ 0) (
    pv_7_left a0 (fun v2 u => 
    br (v2 ≠ 2) (
      rd (u.1 37) (fun v3 => 
      br (v2 ≠ v3) (
        pv_0_arityOf v2 (fun v4 u => 
        pv_10_readMeaning_108 Q a0 v4 u) u) (
        rd (u.1 38) (fun v7 => 
        pv_10_readMeaning_108 Q a0 v7 u)))) (
      pv_7_valueOf a0 (fun v8 u => 
      br (v8 ≤ 1) (
        pv_10_readMeaning_52 Q a0 v8 u) (
        pv_7_isNatural v8 (fun v10 u => 
        br (v10 = 0) (
          pv_10_readMeaning_57 Q a0 v8 0 u) (
          pv_10_readMeaning_52 Q a0 v8 u)) u)) u)) u) (
    Q a0 u)) u
theorem cj_v_10_readMeaning {Q1 Q2 Q3 : Int → iST → Prop}  {a0 : Int} {u : iST} (hQ : ∀ r0 r1, Q1 r0 r1 → Q2 r0 r1 → Q3 r0 r1) : v_10_readMeaning a0 Q1 u → pv_10_readMeaning a0 Q2 u → v_10_readMeaning a0 Q3 u := (cj_v_7_isPair (fun _ _ => (br_cj (cj_v_7_left (fun _ _ => (br_cj (rd_cj fun _ => (br_cj (cj_v_0_arityOf (fun _ _ => (cj_v_10_readMeaning_108  hQ))) (rd_cj fun _ => (cj_v_10_readMeaning_108  hQ)))) (cj_v_7_valueOf (fun _ _ => (br_cj (cj_v_10_readMeaning_52  hQ) (cj_v_7_isNatural (fun _ _ => (br_cj (cj_v_10_readMeaning_57  hQ) (cj_v_10_readMeaning_52  hQ)))))))))) (hQ _ _))))
theorem mn_v_10_readMeaning {Q1 Q2 : Int → iST → Prop}  {a0 : Int} {u : iST} (hQ : ∀ r0 r1, Q1 r0 r1 → Q2 r0 r1) : pv_10_readMeaning a0 Q1 u → pv_10_readMeaning a0 Q2 u := (mn_v_7_isPair (fun _ _ => (br_mn (mn_v_7_left (fun _ _ => (br_mn (rd_mn fun _ => (br_mn (mn_v_0_arityOf (fun _ _ => (mn_v_10_readMeaning_108  hQ))) (rd_mn fun _ => (mn_v_10_readMeaning_108  hQ)))) (mn_v_7_valueOf (fun _ _ => (br_mn (mn_v_10_readMeaning_52  hQ) (mn_v_7_isNatural (fun _ _ => (br_mn (mn_v_10_readMeaning_57  hQ) (mn_v_10_readMeaning_52  hQ)))))))))) (hQ _ _))))
theorem wp_v_10_readMeaning {Q1 Q2 : Int → iST → Prop}  {a0 : Int} {u : iST} (hQ : ∀ r0 r1, Q1 r0 r1 → Q2 r0 r1) : v_10_readMeaning a0 Q1 u → pv_10_readMeaning a0 Q2 u := (wp_v_7_isPair (fun _ _ => (br_wp (wp_v_7_left (fun _ _ => (br_wp (rd_wp fun _ => (br_wp (wp_v_0_arityOf (fun _ _ => (wp_v_10_readMeaning_108  hQ))) (rd_wp fun _ => (wp_v_10_readMeaning_108  hQ)))) (wp_v_7_valueOf (fun _ _ => (br_wp (wp_v_10_readMeaning_52  hQ) (wp_v_7_isNatural (fun _ _ => (br_wp (wp_v_10_readMeaning_57  hQ) (wp_v_10_readMeaning_52  hQ)))))))))) (hQ _ _))))
def pv_10_standsFor_2b (R2 : Int → Int → iST → Prop) (Q : Int → iST → Prop) (x1 : Int) (x2 : Int) (u : iST) : Prop :=
  rd (u.1 39) (fun v1 => 
  br (v1 ≤ x2) (
    Q (-1) u) (
    bdp x2 256 (rd (u.2.1 35 x2) (fun v2 => 
    br (v2 ≠ x1) (
      ovp (x2 + 1) (
      R2 x1 (x2 + 1) u)) (
      bdp x2 256 (rd (u.2.1 36 x2) (fun v4 => 
      Q v4 u)))))))
theorem cj_v_10_standsFor_2b {Q1 Q2 Q3 : Int → iST → Prop} {R21 R22 R23 : Int → Int → iST → Prop} {x1 : Int} {x2 : Int} {u : iST} (hR2 : ∀ r0 r1 r2, R21 r0 r1 r2 → R22 r0 r1 r2 → R23 r0 r1 r2) (hQ : ∀ r0 r1, Q1 r0 r1 → Q2 r0 r1 → Q3 r0 r1) : v_10_standsFor_2b R21 Q1 x1 x2 u → pv_10_standsFor_2b R22 Q2 x1 x2 u → v_10_standsFor_2b R23 Q3 x1 x2 u := (rd_cj fun _ => (br_cj (hQ _ _) (bd_cj (rd_cj fun _ => (br_cj (ov_cj (hR2 _ _ _)) (bd_cj (rd_cj fun _ => (hQ _ _))))))))
theorem mn_v_10_standsFor_2b {Q1 Q2 : Int → iST → Prop} {R21 R22 : Int → Int → iST → Prop} {x1 : Int} {x2 : Int} {u : iST} (hR2 : ∀ r0 r1 r2, R21 r0 r1 r2 → R22 r0 r1 r2) (hQ : ∀ r0 r1, Q1 r0 r1 → Q2 r0 r1) : pv_10_standsFor_2b R21 Q1 x1 x2 u → pv_10_standsFor_2b R22 Q2 x1 x2 u := (rd_mn fun _ => (br_mn (hQ _ _) (bd_mn (rd_mn fun _ => (br_mn (ov_mn (hR2 _ _ _)) (bd_mn (rd_mn fun _ => (hQ _ _))))))))
theorem wp_v_10_standsFor_2b {Q1 Q2 : Int → iST → Prop} {R21 R22 : Int → Int → iST → Prop} {x1 : Int} {x2 : Int} {u : iST} (hR2 : ∀ r0 r1 r2, R21 r0 r1 r2 → R22 r0 r1 r2) (hQ : ∀ r0 r1, Q1 r0 r1 → Q2 r0 r1) : v_10_standsFor_2b R21 Q1 x1 x2 u → pv_10_standsFor_2b R22 Q2 x1 x2 u := (rd_wp fun _ => (br_wp (hQ _ _) (bd_wp (rd_wp fun _ => (br_wp (ov_wp (hR2 _ _ _)) (bd_wp (rd_wp fun _ => (hQ _ _))))))))
def pv_10_standsFor_2 (Q : Int → iST → Prop) (x1 : Int) (x2 : Int) (u : iST) : Prop := ∃ R2 : Int → Int → iST → Prop, (∀ (x1 : Int) (x2 : Int) (u : iST), R2 x1 x2 u → pv_10_standsFor_2b R2 Q x1 x2 u) ∧ R2 x1 x2 u
theorem cj_v_10_standsFor_2 {Q1 Q2 Q3 : Int → iST → Prop}  {x1 : Int} {x2 : Int} {u : iST} (hQ : ∀ r0 r1, Q1 r0 r1 → Q2 r0 r1 → Q3 r0 r1) : v_10_standsFor_2 Q1 x1 x2 u → pv_10_standsFor_2 Q2 x1 x2 u → v_10_standsFor_2 Q3 x1 x2 u := by
  intro a b R3 c3
  obtain ⟨R2, c2, b2⟩ := b
  exact a (fun r0 r1 r2 => R2 r0 r1 r2 → R3 r0 r1 r2) (fun r0 r1 r2 a b => c3 r0 r1 r2 (cj_v_10_standsFor_2b (fun r0 r1 r2 a b => a b) hQ a (c2 r0 r1 r2 b))) b2
theorem pv_10_standsFor_2_i  {Q : Int → iST → Prop} {x1 : Int} {x2 : Int} {u : iST} (I : Int → Int → iST → Prop) (s : ∀ (x1 : Int) (x2 : Int) (u : iST), I x1 x2 u → pv_10_standsFor_2b I Q x1 x2 u) (h : I x1 x2 u) : pv_10_standsFor_2 Q x1 x2 u := ⟨I, s, h⟩
theorem mn_v_10_standsFor_2 {Q1 Q2 : Int → iST → Prop}  {x1 : Int} {x2 : Int} {u : iST} (hQ : ∀ r0 r1, Q1 r0 r1 → Q2 r0 r1) : pv_10_standsFor_2 Q1 x1 x2 u → pv_10_standsFor_2 Q2 x1 x2 u := fun ⟨R, s, h⟩ => ⟨R, fun r0 r1 r2 a => mn_v_10_standsFor_2b (fun r0 r1 r2 a => a) hQ (s r0 r1 r2 a), h⟩
theorem un_v_10_standsFor_2  {Q : Int → iST → Prop} {x1 : Int} {x2 : Int} {u : iST} : pv_10_standsFor_2 Q x1 x2 u → pv_10_standsFor_2b (fun x1 x2 u => pv_10_standsFor_2 Q x1 x2 u) Q x1 x2 u := fun ⟨R, s, h⟩ => mn_v_10_standsFor_2b (fun r0 r1 r2 a => ⟨R, s, a⟩) (fun _ _ h => h) (s _ _ _ h)
theorem fo_v_10_standsFor_2  {Q : Int → iST → Prop} {x1 : Int} {x2 : Int} {u : iST} : pv_10_standsFor_2b (fun x1 x2 u => pv_10_standsFor_2 Q x1 x2 u) Q x1 x2 u → pv_10_standsFor_2 Q x1 x2 u := fun h => ⟨fun x1 x2 u => pv_10_standsFor_2b (fun x1 x2 u => pv_10_standsFor_2 Q x1 x2 u) Q x1 x2 u, fun r0 r1 r2 a => mn_v_10_standsFor_2b (fun r0 r1 r2 a => un_v_10_standsFor_2 a) (fun _ _ h => h) a, h⟩
theorem wp_v_10_standsFor_2 {Q1 Q2 : Int → iST → Prop}  {x1 : Int} {x2 : Int} {u : iST} (hQ : ∀ r0 r1, Q1 r0 r1 → Q2 r0 r1) : v_10_standsFor_2 Q1 x1 x2 u → pv_10_standsFor_2 Q2 x1 x2 u := fun a => a (fun x1 x2 u => pv_10_standsFor_2 Q2 x1 x2 u) (fun x1 x2 u b => fo_v_10_standsFor_2 (wp_v_10_standsFor_2b (fun r0 r1 r2 a => a) hQ b))
def pv_10_standsFor (a0 : Int) (Q : Int → iST → Prop) (u : iST) : Prop :=
  pv_10_standsFor_2 Q a0 0 u
theorem cj_v_10_standsFor {Q1 Q2 Q3 : Int → iST → Prop}  {a0 : Int} {u : iST} (hQ : ∀ r0 r1, Q1 r0 r1 → Q2 r0 r1 → Q3 r0 r1) : v_10_standsFor a0 Q1 u → pv_10_standsFor a0 Q2 u → v_10_standsFor a0 Q3 u := (cj_v_10_standsFor_2  hQ)
theorem mn_v_10_standsFor {Q1 Q2 : Int → iST → Prop}  {a0 : Int} {u : iST} (hQ : ∀ r0 r1, Q1 r0 r1 → Q2 r0 r1) : pv_10_standsFor a0 Q1 u → pv_10_standsFor a0 Q2 u := (mn_v_10_standsFor_2  hQ)
theorem wp_v_10_standsFor {Q1 Q2 : Int → iST → Prop}  {a0 : Int} {u : iST} (hQ : ∀ r0 r1, Q1 r0 r1 → Q2 r0 r1) : v_10_standsFor a0 Q1 u → pv_10_standsFor a0 Q2 u := (wp_v_10_standsFor_2  hQ)
def pv_10_meaningOf_18 (Q : Int → iST → Prop) (x1 : Int) (x2 : Int) (u : iST) : Prop :=
  pv_7_isCall x1 (fun v1 u => 
  br (v1 = 0) (
    br (x2 ≠ 1) (
      Q x1 u) (
      pv_7_isVariable x1 (fun v2 u => 
      br (v2 = 0) (
        Q x1 u) (
        pv_10_standsFor x1 (fun v3 u => 
        br (v3 ≠ (-1)) (
          Q v3 u) (
          Q x1 u)) u)) u)) (
    Q (-2) u)) u
theorem cj_v_10_meaningOf_18 {Q1 Q2 Q3 : Int → iST → Prop}  {x1 : Int} {x2 : Int} {u : iST} (hQ : ∀ r0 r1, Q1 r0 r1 → Q2 r0 r1 → Q3 r0 r1) : v_10_meaningOf_18 Q1 x1 x2 u → pv_10_meaningOf_18 Q2 x1 x2 u → v_10_meaningOf_18 Q3 x1 x2 u := (cj_v_7_isCall (fun _ _ => (br_cj (br_cj (hQ _ _) (cj_v_7_isVariable (fun _ _ => (br_cj (hQ _ _) (cj_v_10_standsFor (fun _ _ => (br_cj (hQ _ _) (hQ _ _)))))))) (hQ _ _))))
theorem mn_v_10_meaningOf_18 {Q1 Q2 : Int → iST → Prop}  {x1 : Int} {x2 : Int} {u : iST} (hQ : ∀ r0 r1, Q1 r0 r1 → Q2 r0 r1) : pv_10_meaningOf_18 Q1 x1 x2 u → pv_10_meaningOf_18 Q2 x1 x2 u := (mn_v_7_isCall (fun _ _ => (br_mn (br_mn (hQ _ _) (mn_v_7_isVariable (fun _ _ => (br_mn (hQ _ _) (mn_v_10_standsFor (fun _ _ => (br_mn (hQ _ _) (hQ _ _)))))))) (hQ _ _))))
theorem wp_v_10_meaningOf_18 {Q1 Q2 : Int → iST → Prop}  {x1 : Int} {x2 : Int} {u : iST} (hQ : ∀ r0 r1, Q1 r0 r1 → Q2 r0 r1) : v_10_meaningOf_18 Q1 x1 x2 u → pv_10_meaningOf_18 Q2 x1 x2 u := (wp_v_7_isCall (fun _ _ => (br_wp (br_wp (hQ _ _) (wp_v_7_isVariable (fun _ _ => (br_wp (hQ _ _) (wp_v_10_standsFor (fun _ _ => (br_wp (hQ _ _) (hQ _ _)))))))) (hQ _ _))))
def pv_10_meaningOf (a0 : Int) (a1 : Int) (Q : Int → iST → Prop) (u : iST) : Prop :=
  br (a1 ≠ 2) (
    pv_10_meaningOf_18 Q a0 a1 u) (
    rd (u.1 40) (fun v4 => 
    br (a0 ≠ v4) (
      pv_10_meaningOf_18 Q a0 a1 u) (
      rd (u.1 41) (fun v5 => 
      Q v5 u))))
theorem cj_v_10_meaningOf {Q1 Q2 Q3 : Int → iST → Prop}  {a0 : Int} {a1 : Int} {u : iST} (hQ : ∀ r0 r1, Q1 r0 r1 → Q2 r0 r1 → Q3 r0 r1) : v_10_meaningOf a0 a1 Q1 u → pv_10_meaningOf a0 a1 Q2 u → v_10_meaningOf a0 a1 Q3 u := (br_cj (cj_v_10_meaningOf_18  hQ) (rd_cj fun _ => (br_cj (cj_v_10_meaningOf_18  hQ) (rd_cj fun _ => (hQ _ _)))))
theorem mn_v_10_meaningOf {Q1 Q2 : Int → iST → Prop}  {a0 : Int} {a1 : Int} {u : iST} (hQ : ∀ r0 r1, Q1 r0 r1 → Q2 r0 r1) : pv_10_meaningOf a0 a1 Q1 u → pv_10_meaningOf a0 a1 Q2 u := (br_mn (mn_v_10_meaningOf_18  hQ) (rd_mn fun _ => (br_mn (mn_v_10_meaningOf_18  hQ) (rd_mn fun _ => (hQ _ _)))))
theorem wp_v_10_meaningOf {Q1 Q2 : Int → iST → Prop}  {a0 : Int} {a1 : Int} {u : iST} (hQ : ∀ r0 r1, Q1 r0 r1 → Q2 r0 r1) : v_10_meaningOf a0 a1 Q1 u → pv_10_meaningOf a0 a1 Q2 u := (br_wp (wp_v_10_meaningOf_18  hQ) (rd_wp fun _ => (br_wp (wp_v_10_meaningOf_18  hQ) (rd_wp fun _ => (hQ _ _)))))
def pv_7_sizeOf (a0 : Int) (Q : Int → iST → Prop) (u : iST) : Prop :=
  br (a0 < 0) (
    Q 1 u) (
    rd (u.1 29) (fun v1 => 
    br (v1 ≤ a0) (
      Q 1 u) (
      bdp a0 160000 (rl (u.2.2 a0) (fun v2 => 
      br (0 ≤ v2) (
        Q 1 u) (
        bdp a0 160000 (rl (u.2.2 a0) (fun v3 => 
        rl (wlushr v3 31) (fun v4 => 
        rd (wl2i v4) (fun v5 => 
        rd (wand v5 2147483647) (fun v6 => 
        br (v6 ≠ 2) (
          bdp a0 160000 (rl (u.2.2 a0) (fun v7 => 
          rd (wl2i v7) (fun v8 => 
          rd (wand v8 2147483647) (fun v9 => 
          bdp v9 160000 (rd (u.2.1 28 v9) (fun v10 => 
          ovp (1 + v10) (
          Q (1 + v10) u)))))))) (
          Q 1 u))))))))))))
theorem cj_v_7_sizeOf {Q1 Q2 Q3 : Int → iST → Prop}  {a0 : Int} {u : iST} (hQ : ∀ r0 r1, Q1 r0 r1 → Q2 r0 r1 → Q3 r0 r1) : v_7_sizeOf a0 Q1 u → pv_7_sizeOf a0 Q2 u → v_7_sizeOf a0 Q3 u := (br_cj (hQ _ _) (rd_cj fun _ => (br_cj (hQ _ _) (bd_cj (rl_cj fun _ => (br_cj (hQ _ _) (bd_cj (rl_cj fun _ => (rl_cj fun _ => (rd_cj fun _ => (rd_cj fun _ => (br_cj (bd_cj (rl_cj fun _ => (rd_cj fun _ => (rd_cj fun _ => (bd_cj (rd_cj fun _ => (ov_cj (hQ _ _)))))))) (hQ _ _)))))))))))))
theorem mn_v_7_sizeOf {Q1 Q2 : Int → iST → Prop}  {a0 : Int} {u : iST} (hQ : ∀ r0 r1, Q1 r0 r1 → Q2 r0 r1) : pv_7_sizeOf a0 Q1 u → pv_7_sizeOf a0 Q2 u := (br_mn (hQ _ _) (rd_mn fun _ => (br_mn (hQ _ _) (bd_mn (rl_mn fun _ => (br_mn (hQ _ _) (bd_mn (rl_mn fun _ => (rl_mn fun _ => (rd_mn fun _ => (rd_mn fun _ => (br_mn (bd_mn (rl_mn fun _ => (rd_mn fun _ => (rd_mn fun _ => (bd_mn (rd_mn fun _ => (ov_mn (hQ _ _)))))))) (hQ _ _)))))))))))))
theorem wp_v_7_sizeOf {Q1 Q2 : Int → iST → Prop}  {a0 : Int} {u : iST} (hQ : ∀ r0 r1, Q1 r0 r1 → Q2 r0 r1) : v_7_sizeOf a0 Q1 u → pv_7_sizeOf a0 Q2 u := (br_wp (hQ _ _) (rd_wp fun _ => (br_wp (hQ _ _) (bd_wp (rl_wp fun _ => (br_wp (hQ _ _) (bd_wp (rl_wp fun _ => (rl_wp fun _ => (rd_wp fun _ => (rd_wp fun _ => (br_wp (bd_wp (rl_wp fun _ => (rd_wp fun _ => (rd_wp fun _ => (bd_wp (rd_wp fun _ => (ov_wp (hQ _ _)))))))) (hQ _ _)))))))))))))
def pv_10_isTooBig_18 (Q : Int → iST → Prop) (x2 : Int) (y0 : Int) (u : iST) : Prop :=
  br (y0 = 0) (
    ztp y0 (Q y0 u)) (
    br (x2 = 0) (
      ztp y0 (Q y0 u)) (
      pv_7_blame 4 (fun u => 
      ztp y0 (Q y0 u)) u))
theorem cj_v_10_isTooBig_18 {Q1 Q2 Q3 : Int → iST → Prop}  {x2 : Int} {y0 : Int} {u : iST} (hQ : ∀ r0 r1, Q1 r0 r1 → Q2 r0 r1 → Q3 r0 r1) : v_10_isTooBig_18 Q1 x2 y0 u → pv_10_isTooBig_18 Q2 x2 y0 u → v_10_isTooBig_18 Q3 x2 y0 u := (br_cj (zt_cj (hQ _ _)) (br_cj (zt_cj (hQ _ _)) (cj_v_7_blame (fun _ => (zt_cj (hQ _ _))))))
theorem mn_v_10_isTooBig_18 {Q1 Q2 : Int → iST → Prop}  {x2 : Int} {y0 : Int} {u : iST} (hQ : ∀ r0 r1, Q1 r0 r1 → Q2 r0 r1) : pv_10_isTooBig_18 Q1 x2 y0 u → pv_10_isTooBig_18 Q2 x2 y0 u := (br_mn (zt_mn (hQ _ _)) (br_mn (zt_mn (hQ _ _)) (mn_v_7_blame (fun _ => (zt_mn (hQ _ _))))))
theorem wp_v_10_isTooBig_18 {Q1 Q2 : Int → iST → Prop}  {x2 : Int} {y0 : Int} {u : iST} (hQ : ∀ r0 r1, Q1 r0 r1 → Q2 r0 r1) : v_10_isTooBig_18 Q1 x2 y0 u → pv_10_isTooBig_18 Q2 x2 y0 u := (br_wp (zt_wp (hQ _ _)) (br_wp (zt_wp (hQ _ _)) (wp_v_7_blame (fun _ => (zt_wp (hQ _ _))))))
def pv_10_isTooBig (a0 : Int) (a1 : Int) (Q : Int → iST → Prop) (u : iST) : Prop :=
  pv_7_sizeOf a0 (fun v1 u => 
  br (v1 ≤ 120) (
    pv_10_isTooBig_18 Q a1 0 u) (
    pv_10_isTooBig_18 Q a1 1 u)) u
theorem cj_v_10_isTooBig {Q1 Q2 Q3 : Int → iST → Prop}  {a0 : Int} {a1 : Int} {u : iST} (hQ : ∀ r0 r1, Q1 r0 r1 → Q2 r0 r1 → Q3 r0 r1) : v_10_isTooBig a0 a1 Q1 u → pv_10_isTooBig a0 a1 Q2 u → v_10_isTooBig a0 a1 Q3 u := (cj_v_7_sizeOf (fun _ _ => (br_cj (cj_v_10_isTooBig_18  hQ) (cj_v_10_isTooBig_18  hQ))))
theorem mn_v_10_isTooBig {Q1 Q2 : Int → iST → Prop}  {a0 : Int} {a1 : Int} {u : iST} (hQ : ∀ r0 r1, Q1 r0 r1 → Q2 r0 r1) : pv_10_isTooBig a0 a1 Q1 u → pv_10_isTooBig a0 a1 Q2 u := (mn_v_7_sizeOf (fun _ _ => (br_mn (mn_v_10_isTooBig_18  hQ) (mn_v_10_isTooBig_18  hQ))))
theorem wp_v_10_isTooBig {Q1 Q2 : Int → iST → Prop}  {a0 : Int} {a1 : Int} {u : iST} (hQ : ∀ r0 r1, Q1 r0 r1 → Q2 r0 r1) : v_10_isTooBig a0 a1 Q1 u → pv_10_isTooBig a0 a1 Q2 u := (wp_v_7_sizeOf (fun _ _ => (br_wp (wp_v_10_isTooBig_18  hQ) (wp_v_10_isTooBig_18  hQ))))
def pv_10_rebuilt_242 (R11 : Int → Int → Int → Int → Int → iST → Prop) (Q : Int → iST → Prop) (x2 : Int) (x3 : Int) (x4 : Int) (x6 : Int) (u : iST) : Prop :=
  br (x3 ≠ 0) (
    ovp (x3 - 1) (
    bdp (x3 - 1) 128 (rd (u.2.1 38 (x3 - 1)) (fun v4 => 
    pv_7_left v4 (fun v5 u => 
    ovp (x3 - 1) (
    ovp (x3 - 1) (
    bdp (x3 - 1) 128 (rd (u.2.1 38 (x3 - 1)) (fun v8 => 
    pv_7_right v8 (fun v9 u => 
    bdp (x3 - 1) 128 (sw (iA u 38 (x3 - 1) v9) (fun u => 
    ovp (x6 + 1) (
    R11 x2 x3 x4 v5 (x6 + 1) u)))) u))))) u)))) (
    bdp 0 768 (rd (u.2.1 40 0) (fun v11 => 
    Q v11 u)))
theorem cj_v_10_rebuilt_242 {Q1 Q2 Q3 : Int → iST → Prop} {R111 R112 R113 : Int → Int → Int → Int → Int → iST → Prop} {x2 : Int} {x3 : Int} {x4 : Int} {x6 : Int} {u : iST} (hR11 : ∀ r0 r1 r2 r3 r4 r5, R111 r0 r1 r2 r3 r4 r5 → R112 r0 r1 r2 r3 r4 r5 → R113 r0 r1 r2 r3 r4 r5) (hQ : ∀ r0 r1, Q1 r0 r1 → Q2 r0 r1 → Q3 r0 r1) : v_10_rebuilt_242 R111 Q1 x2 x3 x4 x6 u → pv_10_rebuilt_242 R112 Q2 x2 x3 x4 x6 u → v_10_rebuilt_242 R113 Q3 x2 x3 x4 x6 u := (br_cj (ov_cj (bd_cj (rd_cj fun _ => (cj_v_7_left (fun _ _ => (ov_cj (ov_cj (bd_cj (rd_cj fun _ => (cj_v_7_right (fun _ _ => (bd_cj (sw_cj fun _ => (ov_cj (hR11 _ _ _ _ _ _))))))))))))))) (bd_cj (rd_cj fun _ => (hQ _ _))))
theorem mn_v_10_rebuilt_242 {Q1 Q2 : Int → iST → Prop} {R111 R112 : Int → Int → Int → Int → Int → iST → Prop} {x2 : Int} {x3 : Int} {x4 : Int} {x6 : Int} {u : iST} (hR11 : ∀ r0 r1 r2 r3 r4 r5, R111 r0 r1 r2 r3 r4 r5 → R112 r0 r1 r2 r3 r4 r5) (hQ : ∀ r0 r1, Q1 r0 r1 → Q2 r0 r1) : pv_10_rebuilt_242 R111 Q1 x2 x3 x4 x6 u → pv_10_rebuilt_242 R112 Q2 x2 x3 x4 x6 u := (br_mn (ov_mn (bd_mn (rd_mn fun _ => (mn_v_7_left (fun _ _ => (ov_mn (ov_mn (bd_mn (rd_mn fun _ => (mn_v_7_right (fun _ _ => (bd_mn (sw_mn fun _ => (ov_mn (hR11 _ _ _ _ _ _))))))))))))))) (bd_mn (rd_mn fun _ => (hQ _ _))))
theorem wp_v_10_rebuilt_242 {Q1 Q2 : Int → iST → Prop} {R111 R112 : Int → Int → Int → Int → Int → iST → Prop} {x2 : Int} {x3 : Int} {x4 : Int} {x6 : Int} {u : iST} (hR11 : ∀ r0 r1 r2 r3 r4 r5, R111 r0 r1 r2 r3 r4 r5 → R112 r0 r1 r2 r3 r4 r5) (hQ : ∀ r0 r1, Q1 r0 r1 → Q2 r0 r1) : v_10_rebuilt_242 R111 Q1 x2 x3 x4 x6 u → pv_10_rebuilt_242 R112 Q2 x2 x3 x4 x6 u := (br_wp (ov_wp (bd_wp (rd_wp fun _ => (wp_v_7_left (fun _ _ => (ov_wp (ov_wp (bd_wp (rd_wp fun _ => (wp_v_7_right (fun _ _ => (bd_wp (sw_wp fun _ => (ov_wp (hR11 _ _ _ _ _ _))))))))))))))) (bd_wp (rd_wp fun _ => (hQ _ _))))
def pv_10_rebuilt_156b (R11 : Int → Int → Int → Int → Int → iST → Prop) (R128 : Int → Int → Int → Int → iST → Prop) (R156 : Int → Int → Int → Int → Int → iST → Prop) (Q : Int → iST → Prop) (x2 : Int) (x3 : Int) (x4 : Int) (x6 : Int) (x8 : Int) (u : iST) : Prop :=
  bdp x3 128 (rd (u.2.1 39 x3) (fun v16 => 
  br (x4 ≤ v16) (
    bdp x3 128 (rd (u.2.1 37 x3) (fun v17 => 
    pv_11_pairCell v17 x8 (fun v18 u => 
    pv_7_made v18 (fun v19 u => 
    bdp x4 768 (sw (iA u 40 x4 v19) (fun u => 
    bdp x4 768 (rd (u.2.1 40 x4) (fun v20 => 
    pv_10_isTooBig v20 x2 (fun v21 u => 
    br (v21 = 0) (
      ovp (x4 + 1) (
      R128 x2 x3 (x4 + 1) x6 u)) (
      Q (-1) u)) u))))) u) u))) (
    ovp (x4 + (-1)) (
    bdp (x4 + (-1)) 768 (rd (u.2.1 40 (x4 + (-1))) (fun v24 => 
    pv_11_pairCell v24 x8 (fun v25 u => 
    pv_7_made v25 (fun v26 u => 
    R156 x2 x3 (x4 + (-1)) x6 v26 u) u) u))))))
theorem cj_v_10_rebuilt_156b {Q1 Q2 Q3 : Int → iST → Prop} {R111 R112 R113 : Int → Int → Int → Int → Int → iST → Prop} {R1281 R1282 R1283 : Int → Int → Int → Int → iST → Prop} {R1561 R1562 R1563 : Int → Int → Int → Int → Int → iST → Prop} {x2 : Int} {x3 : Int} {x4 : Int} {x6 : Int} {x8 : Int} {u : iST} (hR11 : ∀ r0 r1 r2 r3 r4 r5, R111 r0 r1 r2 r3 r4 r5 → R112 r0 r1 r2 r3 r4 r5 → R113 r0 r1 r2 r3 r4 r5) (hR128 : ∀ r0 r1 r2 r3 r4, R1281 r0 r1 r2 r3 r4 → R1282 r0 r1 r2 r3 r4 → R1283 r0 r1 r2 r3 r4) (hR156 : ∀ r0 r1 r2 r3 r4 r5, R1561 r0 r1 r2 r3 r4 r5 → R1562 r0 r1 r2 r3 r4 r5 → R1563 r0 r1 r2 r3 r4 r5) (hQ : ∀ r0 r1, Q1 r0 r1 → Q2 r0 r1 → Q3 r0 r1) : v_10_rebuilt_156b R111 R1281 R1561 Q1 x2 x3 x4 x6 x8 u → pv_10_rebuilt_156b R112 R1282 R1562 Q2 x2 x3 x4 x6 x8 u → v_10_rebuilt_156b R113 R1283 R1563 Q3 x2 x3 x4 x6 x8 u := (bd_cj (rd_cj fun _ => (br_cj (bd_cj (rd_cj fun _ => (cj_v_11_pairCell (fun _ _ => (cj_v_7_made (fun _ _ => (bd_cj (sw_cj fun _ => (bd_cj (rd_cj fun _ => (cj_v_10_isTooBig (fun _ _ => (br_cj (ov_cj (hR128 _ _ _ _ _)) (hQ _ _)))))))))))))) (ov_cj (bd_cj (rd_cj fun _ => (cj_v_11_pairCell (fun _ _ => (cj_v_7_made (fun _ _ => (hR156 _ _ _ _ _ _)))))))))))
theorem mn_v_10_rebuilt_156b {Q1 Q2 : Int → iST → Prop} {R111 R112 : Int → Int → Int → Int → Int → iST → Prop} {R1281 R1282 : Int → Int → Int → Int → iST → Prop} {R1561 R1562 : Int → Int → Int → Int → Int → iST → Prop} {x2 : Int} {x3 : Int} {x4 : Int} {x6 : Int} {x8 : Int} {u : iST} (hR11 : ∀ r0 r1 r2 r3 r4 r5, R111 r0 r1 r2 r3 r4 r5 → R112 r0 r1 r2 r3 r4 r5) (hR128 : ∀ r0 r1 r2 r3 r4, R1281 r0 r1 r2 r3 r4 → R1282 r0 r1 r2 r3 r4) (hR156 : ∀ r0 r1 r2 r3 r4 r5, R1561 r0 r1 r2 r3 r4 r5 → R1562 r0 r1 r2 r3 r4 r5) (hQ : ∀ r0 r1, Q1 r0 r1 → Q2 r0 r1) : pv_10_rebuilt_156b R111 R1281 R1561 Q1 x2 x3 x4 x6 x8 u → pv_10_rebuilt_156b R112 R1282 R1562 Q2 x2 x3 x4 x6 x8 u := (bd_mn (rd_mn fun _ => (br_mn (bd_mn (rd_mn fun _ => (mn_v_11_pairCell (fun _ _ => (mn_v_7_made (fun _ _ => (bd_mn (sw_mn fun _ => (bd_mn (rd_mn fun _ => (mn_v_10_isTooBig (fun _ _ => (br_mn (ov_mn (hR128 _ _ _ _ _)) (hQ _ _)))))))))))))) (ov_mn (bd_mn (rd_mn fun _ => (mn_v_11_pairCell (fun _ _ => (mn_v_7_made (fun _ _ => (hR156 _ _ _ _ _ _)))))))))))
theorem wp_v_10_rebuilt_156b {Q1 Q2 : Int → iST → Prop} {R111 R112 : Int → Int → Int → Int → Int → iST → Prop} {R1281 R1282 : Int → Int → Int → Int → iST → Prop} {R1561 R1562 : Int → Int → Int → Int → Int → iST → Prop} {x2 : Int} {x3 : Int} {x4 : Int} {x6 : Int} {x8 : Int} {u : iST} (hR11 : ∀ r0 r1 r2 r3 r4 r5, R111 r0 r1 r2 r3 r4 r5 → R112 r0 r1 r2 r3 r4 r5) (hR128 : ∀ r0 r1 r2 r3 r4, R1281 r0 r1 r2 r3 r4 → R1282 r0 r1 r2 r3 r4) (hR156 : ∀ r0 r1 r2 r3 r4 r5, R1561 r0 r1 r2 r3 r4 r5 → R1562 r0 r1 r2 r3 r4 r5) (hQ : ∀ r0 r1, Q1 r0 r1 → Q2 r0 r1) : v_10_rebuilt_156b R111 R1281 R1561 Q1 x2 x3 x4 x6 x8 u → pv_10_rebuilt_156b R112 R1282 R1562 Q2 x2 x3 x4 x6 x8 u := (bd_wp (rd_wp fun _ => (br_wp (bd_wp (rd_wp fun _ => (wp_v_11_pairCell (fun _ _ => (wp_v_7_made (fun _ _ => (bd_wp (sw_wp fun _ => (bd_wp (rd_wp fun _ => (wp_v_10_isTooBig (fun _ _ => (br_wp (ov_wp (hR128 _ _ _ _ _)) (hQ _ _)))))))))))))) (ov_wp (bd_wp (rd_wp fun _ => (wp_v_11_pairCell (fun _ _ => (wp_v_7_made (fun _ _ => (hR156 _ _ _ _ _ _)))))))))))
def pv_10_rebuilt_156 (R11 : Int → Int → Int → Int → Int → iST → Prop) (R128 : Int → Int → Int → Int → iST → Prop) (Q : Int → iST → Prop) (x2 : Int) (x3 : Int) (x4 : Int) (x6 : Int) (x8 : Int) (u : iST) : Prop := ∃ R156 : Int → Int → Int → Int → Int → iST → Prop, (∀ (x2 : Int) (x3 : Int) (x4 : Int) (x6 : Int) (x8 : Int) (u : iST), R156 x2 x3 x4 x6 x8 u → pv_10_rebuilt_156b R11 R128 R156 Q x2 x3 x4 x6 x8 u) ∧ R156 x2 x3 x4 x6 x8 u
theorem cj_v_10_rebuilt_156 {Q1 Q2 Q3 : Int → iST → Prop} {R111 R112 R113 : Int → Int → Int → Int → Int → iST → Prop} {R1281 R1282 R1283 : Int → Int → Int → Int → iST → Prop} {x2 : Int} {x3 : Int} {x4 : Int} {x6 : Int} {x8 : Int} {u : iST} (hR11 : ∀ r0 r1 r2 r3 r4 r5, R111 r0 r1 r2 r3 r4 r5 → R112 r0 r1 r2 r3 r4 r5 → R113 r0 r1 r2 r3 r4 r5) (hR128 : ∀ r0 r1 r2 r3 r4, R1281 r0 r1 r2 r3 r4 → R1282 r0 r1 r2 r3 r4 → R1283 r0 r1 r2 r3 r4) (hQ : ∀ r0 r1, Q1 r0 r1 → Q2 r0 r1 → Q3 r0 r1) : v_10_rebuilt_156 R111 R1281 Q1 x2 x3 x4 x6 x8 u → pv_10_rebuilt_156 R112 R1282 Q2 x2 x3 x4 x6 x8 u → v_10_rebuilt_156 R113 R1283 Q3 x2 x3 x4 x6 x8 u := by
  intro a b R3 c3
  obtain ⟨R2, c2, b2⟩ := b
  exact a (fun r0 r1 r2 r3 r4 r5 => R2 r0 r1 r2 r3 r4 r5 → R3 r0 r1 r2 r3 r4 r5) (fun r0 r1 r2 r3 r4 r5 a b => c3 r0 r1 r2 r3 r4 r5 (cj_v_10_rebuilt_156b hR11 hR128 (fun r0 r1 r2 r3 r4 r5 a b => a b) hQ a (c2 r0 r1 r2 r3 r4 r5 b))) b2
theorem pv_10_rebuilt_156_i {R11 : Int → Int → Int → Int → Int → iST → Prop} {R128 : Int → Int → Int → Int → iST → Prop} {Q : Int → iST → Prop} {x2 : Int} {x3 : Int} {x4 : Int} {x6 : Int} {x8 : Int} {u : iST} (I : Int → Int → Int → Int → Int → iST → Prop) (s : ∀ (x2 : Int) (x3 : Int) (x4 : Int) (x6 : Int) (x8 : Int) (u : iST), I x2 x3 x4 x6 x8 u → pv_10_rebuilt_156b R11 R128 I Q x2 x3 x4 x6 x8 u) (h : I x2 x3 x4 x6 x8 u) : pv_10_rebuilt_156 R11 R128 Q x2 x3 x4 x6 x8 u := ⟨I, s, h⟩
theorem mn_v_10_rebuilt_156 {Q1 Q2 : Int → iST → Prop} {R111 R112 : Int → Int → Int → Int → Int → iST → Prop} {R1281 R1282 : Int → Int → Int → Int → iST → Prop} {x2 : Int} {x3 : Int} {x4 : Int} {x6 : Int} {x8 : Int} {u : iST} (hR11 : ∀ r0 r1 r2 r3 r4 r5, R111 r0 r1 r2 r3 r4 r5 → R112 r0 r1 r2 r3 r4 r5) (hR128 : ∀ r0 r1 r2 r3 r4, R1281 r0 r1 r2 r3 r4 → R1282 r0 r1 r2 r3 r4) (hQ : ∀ r0 r1, Q1 r0 r1 → Q2 r0 r1) : pv_10_rebuilt_156 R111 R1281 Q1 x2 x3 x4 x6 x8 u → pv_10_rebuilt_156 R112 R1282 Q2 x2 x3 x4 x6 x8 u := fun ⟨R, s, h⟩ => ⟨R, fun r0 r1 r2 r3 r4 r5 a => mn_v_10_rebuilt_156b hR11 hR128 (fun r0 r1 r2 r3 r4 r5 a => a) hQ (s r0 r1 r2 r3 r4 r5 a), h⟩
theorem un_v_10_rebuilt_156 {R11 : Int → Int → Int → Int → Int → iST → Prop} {R128 : Int → Int → Int → Int → iST → Prop} {Q : Int → iST → Prop} {x2 : Int} {x3 : Int} {x4 : Int} {x6 : Int} {x8 : Int} {u : iST} : pv_10_rebuilt_156 R11 R128 Q x2 x3 x4 x6 x8 u → pv_10_rebuilt_156b R11 R128 (fun x2 x3 x4 x6 x8 u => pv_10_rebuilt_156 R11 R128 Q x2 x3 x4 x6 x8 u) Q x2 x3 x4 x6 x8 u := fun ⟨R, s, h⟩ => mn_v_10_rebuilt_156b (fun _ _ _ _ _ _ h => h) (fun _ _ _ _ _ h => h) (fun r0 r1 r2 r3 r4 r5 a => ⟨R, s, a⟩) (fun _ _ h => h) (s _ _ _ _ _ _ h)
theorem fo_v_10_rebuilt_156 {R11 : Int → Int → Int → Int → Int → iST → Prop} {R128 : Int → Int → Int → Int → iST → Prop} {Q : Int → iST → Prop} {x2 : Int} {x3 : Int} {x4 : Int} {x6 : Int} {x8 : Int} {u : iST} : pv_10_rebuilt_156b R11 R128 (fun x2 x3 x4 x6 x8 u => pv_10_rebuilt_156 R11 R128 Q x2 x3 x4 x6 x8 u) Q x2 x3 x4 x6 x8 u → pv_10_rebuilt_156 R11 R128 Q x2 x3 x4 x6 x8 u := fun h => ⟨fun x2 x3 x4 x6 x8 u => pv_10_rebuilt_156b R11 R128 (fun x2 x3 x4 x6 x8 u => pv_10_rebuilt_156 R11 R128 Q x2 x3 x4 x6 x8 u) Q x2 x3 x4 x6 x8 u, fun r0 r1 r2 r3 r4 r5 a => mn_v_10_rebuilt_156b (fun _ _ _ _ _ _ h => h) (fun _ _ _ _ _ h => h) (fun r0 r1 r2 r3 r4 r5 a => un_v_10_rebuilt_156 a) (fun _ _ h => h) a, h⟩
theorem wp_v_10_rebuilt_156 {Q1 Q2 : Int → iST → Prop} {R111 R112 : Int → Int → Int → Int → Int → iST → Prop} {R1281 R1282 : Int → Int → Int → Int → iST → Prop} {x2 : Int} {x3 : Int} {x4 : Int} {x6 : Int} {x8 : Int} {u : iST} (hR11 : ∀ r0 r1 r2 r3 r4 r5, R111 r0 r1 r2 r3 r4 r5 → R112 r0 r1 r2 r3 r4 r5) (hR128 : ∀ r0 r1 r2 r3 r4, R1281 r0 r1 r2 r3 r4 → R1282 r0 r1 r2 r3 r4) (hQ : ∀ r0 r1, Q1 r0 r1 → Q2 r0 r1) : v_10_rebuilt_156 R111 R1281 Q1 x2 x3 x4 x6 x8 u → pv_10_rebuilt_156 R112 R1282 Q2 x2 x3 x4 x6 x8 u := fun a => a (fun x2 x3 x4 x6 x8 u => pv_10_rebuilt_156 R112 R1282 Q2 x2 x3 x4 x6 x8 u) (fun x2 x3 x4 x6 x8 u b => fo_v_10_rebuilt_156 (wp_v_10_rebuilt_156b hR11 hR128 (fun r0 r1 r2 r3 r4 r5 a => a) hQ b))
def pv_10_rebuilt_128b (R11 : Int → Int → Int → Int → Int → iST → Prop) (R128 : Int → Int → Int → Int → iST → Prop) (Q : Int → iST → Prop) (x2 : Int) (x3 : Int) (x4 : Int) (x6 : Int) (u : iST) : Prop :=
  br (x3 ≤ 0) (
    pv_10_rebuilt_242 R11 Q x2 x3 x4 x6 u) (
    ovp (x3 - 1) (
    bdp (x3 - 1) 128 (rd (u.2.1 38 (x3 - 1)) (fun v13 => 
    pv_7_isPair v13 (fun v14 u => 
    br (v14 ≠ 0) (
      pv_10_rebuilt_242 R11 Q x2 x3 x4 x6 u) (
      ovp (x3 + (-1)) (
      pv_10_rebuilt_156 R11 R128 Q x2 (x3 + (-1)) x4 x6 0 u))) u))))
theorem cj_v_10_rebuilt_128b {Q1 Q2 Q3 : Int → iST → Prop} {R111 R112 R113 : Int → Int → Int → Int → Int → iST → Prop} {R1281 R1282 R1283 : Int → Int → Int → Int → iST → Prop} {x2 : Int} {x3 : Int} {x4 : Int} {x6 : Int} {u : iST} (hR11 : ∀ r0 r1 r2 r3 r4 r5, R111 r0 r1 r2 r3 r4 r5 → R112 r0 r1 r2 r3 r4 r5 → R113 r0 r1 r2 r3 r4 r5) (hR128 : ∀ r0 r1 r2 r3 r4, R1281 r0 r1 r2 r3 r4 → R1282 r0 r1 r2 r3 r4 → R1283 r0 r1 r2 r3 r4) (hQ : ∀ r0 r1, Q1 r0 r1 → Q2 r0 r1 → Q3 r0 r1) : v_10_rebuilt_128b R111 R1281 Q1 x2 x3 x4 x6 u → pv_10_rebuilt_128b R112 R1282 Q2 x2 x3 x4 x6 u → v_10_rebuilt_128b R113 R1283 Q3 x2 x3 x4 x6 u := (br_cj (cj_v_10_rebuilt_242 hR11 hQ) (ov_cj (bd_cj (rd_cj fun _ => (cj_v_7_isPair (fun _ _ => (br_cj (cj_v_10_rebuilt_242 hR11 hQ) (ov_cj (cj_v_10_rebuilt_156 hR11 hR128 hQ)))))))))
theorem mn_v_10_rebuilt_128b {Q1 Q2 : Int → iST → Prop} {R111 R112 : Int → Int → Int → Int → Int → iST → Prop} {R1281 R1282 : Int → Int → Int → Int → iST → Prop} {x2 : Int} {x3 : Int} {x4 : Int} {x6 : Int} {u : iST} (hR11 : ∀ r0 r1 r2 r3 r4 r5, R111 r0 r1 r2 r3 r4 r5 → R112 r0 r1 r2 r3 r4 r5) (hR128 : ∀ r0 r1 r2 r3 r4, R1281 r0 r1 r2 r3 r4 → R1282 r0 r1 r2 r3 r4) (hQ : ∀ r0 r1, Q1 r0 r1 → Q2 r0 r1) : pv_10_rebuilt_128b R111 R1281 Q1 x2 x3 x4 x6 u → pv_10_rebuilt_128b R112 R1282 Q2 x2 x3 x4 x6 u := (br_mn (mn_v_10_rebuilt_242 hR11 hQ) (ov_mn (bd_mn (rd_mn fun _ => (mn_v_7_isPair (fun _ _ => (br_mn (mn_v_10_rebuilt_242 hR11 hQ) (ov_mn (mn_v_10_rebuilt_156 hR11 hR128 hQ)))))))))
theorem wp_v_10_rebuilt_128b {Q1 Q2 : Int → iST → Prop} {R111 R112 : Int → Int → Int → Int → Int → iST → Prop} {R1281 R1282 : Int → Int → Int → Int → iST → Prop} {x2 : Int} {x3 : Int} {x4 : Int} {x6 : Int} {u : iST} (hR11 : ∀ r0 r1 r2 r3 r4 r5, R111 r0 r1 r2 r3 r4 r5 → R112 r0 r1 r2 r3 r4 r5) (hR128 : ∀ r0 r1 r2 r3 r4, R1281 r0 r1 r2 r3 r4 → R1282 r0 r1 r2 r3 r4) (hQ : ∀ r0 r1, Q1 r0 r1 → Q2 r0 r1) : v_10_rebuilt_128b R111 R1281 Q1 x2 x3 x4 x6 u → pv_10_rebuilt_128b R112 R1282 Q2 x2 x3 x4 x6 u := (br_wp (wp_v_10_rebuilt_242 hR11 hQ) (ov_wp (bd_wp (rd_wp fun _ => (wp_v_7_isPair (fun _ _ => (br_wp (wp_v_10_rebuilt_242 hR11 hQ) (ov_wp (wp_v_10_rebuilt_156 hR11 hR128 hQ)))))))))
def pv_10_rebuilt_128 (R11 : Int → Int → Int → Int → Int → iST → Prop) (Q : Int → iST → Prop) (x2 : Int) (x3 : Int) (x4 : Int) (x6 : Int) (u : iST) : Prop := ∃ R128 : Int → Int → Int → Int → iST → Prop, (∀ (x2 : Int) (x3 : Int) (x4 : Int) (x6 : Int) (u : iST), R128 x2 x3 x4 x6 u → pv_10_rebuilt_128b R11 R128 Q x2 x3 x4 x6 u) ∧ R128 x2 x3 x4 x6 u
theorem cj_v_10_rebuilt_128 {Q1 Q2 Q3 : Int → iST → Prop} {R111 R112 R113 : Int → Int → Int → Int → Int → iST → Prop} {x2 : Int} {x3 : Int} {x4 : Int} {x6 : Int} {u : iST} (hR11 : ∀ r0 r1 r2 r3 r4 r5, R111 r0 r1 r2 r3 r4 r5 → R112 r0 r1 r2 r3 r4 r5 → R113 r0 r1 r2 r3 r4 r5) (hQ : ∀ r0 r1, Q1 r0 r1 → Q2 r0 r1 → Q3 r0 r1) : v_10_rebuilt_128 R111 Q1 x2 x3 x4 x6 u → pv_10_rebuilt_128 R112 Q2 x2 x3 x4 x6 u → v_10_rebuilt_128 R113 Q3 x2 x3 x4 x6 u := by
  intro a b R3 c3
  obtain ⟨R2, c2, b2⟩ := b
  exact a (fun r0 r1 r2 r3 r4 => R2 r0 r1 r2 r3 r4 → R3 r0 r1 r2 r3 r4) (fun r0 r1 r2 r3 r4 a b => c3 r0 r1 r2 r3 r4 (cj_v_10_rebuilt_128b hR11 (fun r0 r1 r2 r3 r4 a b => a b) hQ a (c2 r0 r1 r2 r3 r4 b))) b2
theorem pv_10_rebuilt_128_i {R11 : Int → Int → Int → Int → Int → iST → Prop} {Q : Int → iST → Prop} {x2 : Int} {x3 : Int} {x4 : Int} {x6 : Int} {u : iST} (I : Int → Int → Int → Int → iST → Prop) (s : ∀ (x2 : Int) (x3 : Int) (x4 : Int) (x6 : Int) (u : iST), I x2 x3 x4 x6 u → pv_10_rebuilt_128b R11 I Q x2 x3 x4 x6 u) (h : I x2 x3 x4 x6 u) : pv_10_rebuilt_128 R11 Q x2 x3 x4 x6 u := ⟨I, s, h⟩
theorem mn_v_10_rebuilt_128 {Q1 Q2 : Int → iST → Prop} {R111 R112 : Int → Int → Int → Int → Int → iST → Prop} {x2 : Int} {x3 : Int} {x4 : Int} {x6 : Int} {u : iST} (hR11 : ∀ r0 r1 r2 r3 r4 r5, R111 r0 r1 r2 r3 r4 r5 → R112 r0 r1 r2 r3 r4 r5) (hQ : ∀ r0 r1, Q1 r0 r1 → Q2 r0 r1) : pv_10_rebuilt_128 R111 Q1 x2 x3 x4 x6 u → pv_10_rebuilt_128 R112 Q2 x2 x3 x4 x6 u := fun ⟨R, s, h⟩ => ⟨R, fun r0 r1 r2 r3 r4 a => mn_v_10_rebuilt_128b hR11 (fun r0 r1 r2 r3 r4 a => a) hQ (s r0 r1 r2 r3 r4 a), h⟩
theorem un_v_10_rebuilt_128 {R11 : Int → Int → Int → Int → Int → iST → Prop} {Q : Int → iST → Prop} {x2 : Int} {x3 : Int} {x4 : Int} {x6 : Int} {u : iST} : pv_10_rebuilt_128 R11 Q x2 x3 x4 x6 u → pv_10_rebuilt_128b R11 (fun x2 x3 x4 x6 u => pv_10_rebuilt_128 R11 Q x2 x3 x4 x6 u) Q x2 x3 x4 x6 u := fun ⟨R, s, h⟩ => mn_v_10_rebuilt_128b (fun _ _ _ _ _ _ h => h) (fun r0 r1 r2 r3 r4 a => ⟨R, s, a⟩) (fun _ _ h => h) (s _ _ _ _ _ h)
theorem fo_v_10_rebuilt_128 {R11 : Int → Int → Int → Int → Int → iST → Prop} {Q : Int → iST → Prop} {x2 : Int} {x3 : Int} {x4 : Int} {x6 : Int} {u : iST} : pv_10_rebuilt_128b R11 (fun x2 x3 x4 x6 u => pv_10_rebuilt_128 R11 Q x2 x3 x4 x6 u) Q x2 x3 x4 x6 u → pv_10_rebuilt_128 R11 Q x2 x3 x4 x6 u := fun h => ⟨fun x2 x3 x4 x6 u => pv_10_rebuilt_128b R11 (fun x2 x3 x4 x6 u => pv_10_rebuilt_128 R11 Q x2 x3 x4 x6 u) Q x2 x3 x4 x6 u, fun r0 r1 r2 r3 r4 a => mn_v_10_rebuilt_128b (fun _ _ _ _ _ _ h => h) (fun r0 r1 r2 r3 r4 a => un_v_10_rebuilt_128 a) (fun _ _ h => h) a, h⟩
theorem wp_v_10_rebuilt_128 {Q1 Q2 : Int → iST → Prop} {R111 R112 : Int → Int → Int → Int → Int → iST → Prop} {x2 : Int} {x3 : Int} {x4 : Int} {x6 : Int} {u : iST} (hR11 : ∀ r0 r1 r2 r3 r4 r5, R111 r0 r1 r2 r3 r4 r5 → R112 r0 r1 r2 r3 r4 r5) (hQ : ∀ r0 r1, Q1 r0 r1 → Q2 r0 r1) : v_10_rebuilt_128 R111 Q1 x2 x3 x4 x6 u → pv_10_rebuilt_128 R112 Q2 x2 x3 x4 x6 u := fun a => a (fun x2 x3 x4 x6 u => pv_10_rebuilt_128 R112 Q2 x2 x3 x4 x6 u) (fun x2 x3 x4 x6 u b => fo_v_10_rebuilt_128 (wp_v_10_rebuilt_128b hR11 (fun r0 r1 r2 r3 r4 a => a) hQ b))
def pv_10_rebuilt_38 (R11 : Int → Int → Int → Int → Int → iST → Prop) (Q : Int → iST → Prop) (x2 : Int) (x3 : Int) (x4 : Int) (x5 : Int) (x6 : Int) (y0 : Int) (u : iST) : Prop :=
  br (y0 = (-1)) (
    Q (-1) u) (
    br (128 ≤ x3) (
      Q (-1) u) (
      br (x4 < 768) (
        br (y0 ≠ (-2)) (
          bdp x4 768 (sw (iA u 40 x4 y0) (fun u => 
          ovp (x4 + 1) (
          pv_10_rebuilt_128 R11 Q x2 x3 (x4 + 1) x6 u)))) (
          pv_7_left x5 (fun v27 u => 
          bdp x3 128 (sw (iA u 37 x3 v27) (fun u => 
          pv_7_right x5 (fun v28 u => 
          bdp x3 128 (sw (iA u 38 x3 v28) (fun u => 
          bdp x3 128 (sw (iA u 39 x3 x4) (fun u => 
          ovp (x3 + 1) (
          pv_10_rebuilt_128 R11 Q x2 (x3 + 1) x4 x6 u)))))) u))) u)) (
        Q (-1) u)))
theorem cj_v_10_rebuilt_38 {Q1 Q2 Q3 : Int → iST → Prop} {R111 R112 R113 : Int → Int → Int → Int → Int → iST → Prop} {x2 : Int} {x3 : Int} {x4 : Int} {x5 : Int} {x6 : Int} {y0 : Int} {u : iST} (hR11 : ∀ r0 r1 r2 r3 r4 r5, R111 r0 r1 r2 r3 r4 r5 → R112 r0 r1 r2 r3 r4 r5 → R113 r0 r1 r2 r3 r4 r5) (hQ : ∀ r0 r1, Q1 r0 r1 → Q2 r0 r1 → Q3 r0 r1) : v_10_rebuilt_38 R111 Q1 x2 x3 x4 x5 x6 y0 u → pv_10_rebuilt_38 R112 Q2 x2 x3 x4 x5 x6 y0 u → v_10_rebuilt_38 R113 Q3 x2 x3 x4 x5 x6 y0 u := (br_cj (hQ _ _) (br_cj (hQ _ _) (br_cj (br_cj (bd_cj (sw_cj fun _ => (ov_cj (cj_v_10_rebuilt_128 hR11 hQ)))) (cj_v_7_left (fun _ _ => (bd_cj (sw_cj fun _ => (cj_v_7_right (fun _ _ => (bd_cj (sw_cj fun _ => (bd_cj (sw_cj fun _ => (ov_cj (cj_v_10_rebuilt_128 hR11 hQ))))))))))))) (hQ _ _))))
theorem mn_v_10_rebuilt_38 {Q1 Q2 : Int → iST → Prop} {R111 R112 : Int → Int → Int → Int → Int → iST → Prop} {x2 : Int} {x3 : Int} {x4 : Int} {x5 : Int} {x6 : Int} {y0 : Int} {u : iST} (hR11 : ∀ r0 r1 r2 r3 r4 r5, R111 r0 r1 r2 r3 r4 r5 → R112 r0 r1 r2 r3 r4 r5) (hQ : ∀ r0 r1, Q1 r0 r1 → Q2 r0 r1) : pv_10_rebuilt_38 R111 Q1 x2 x3 x4 x5 x6 y0 u → pv_10_rebuilt_38 R112 Q2 x2 x3 x4 x5 x6 y0 u := (br_mn (hQ _ _) (br_mn (hQ _ _) (br_mn (br_mn (bd_mn (sw_mn fun _ => (ov_mn (mn_v_10_rebuilt_128 hR11 hQ)))) (mn_v_7_left (fun _ _ => (bd_mn (sw_mn fun _ => (mn_v_7_right (fun _ _ => (bd_mn (sw_mn fun _ => (bd_mn (sw_mn fun _ => (ov_mn (mn_v_10_rebuilt_128 hR11 hQ))))))))))))) (hQ _ _))))
theorem wp_v_10_rebuilt_38 {Q1 Q2 : Int → iST → Prop} {R111 R112 : Int → Int → Int → Int → Int → iST → Prop} {x2 : Int} {x3 : Int} {x4 : Int} {x5 : Int} {x6 : Int} {y0 : Int} {u : iST} (hR11 : ∀ r0 r1 r2 r3 r4 r5, R111 r0 r1 r2 r3 r4 r5 → R112 r0 r1 r2 r3 r4 r5) (hQ : ∀ r0 r1, Q1 r0 r1 → Q2 r0 r1) : v_10_rebuilt_38 R111 Q1 x2 x3 x4 x5 x6 y0 u → pv_10_rebuilt_38 R112 Q2 x2 x3 x4 x5 x6 y0 u := (br_wp (hQ _ _) (br_wp (hQ _ _) (br_wp (br_wp (bd_wp (sw_wp fun _ => (ov_wp (wp_v_10_rebuilt_128 hR11 hQ)))) (wp_v_7_left (fun _ _ => (bd_wp (sw_wp fun _ => (wp_v_7_right (fun _ _ => (bd_wp (sw_wp fun _ => (bd_wp (sw_wp fun _ => (ov_wp (wp_v_10_rebuilt_128 hR11 hQ))))))))))))) (hQ _ _))))
def pv_10_rebuilt_11b (R11 : Int → Int → Int → Int → Int → iST → Prop) (Q : Int → iST → Prop) (x2 : Int) (x3 : Int) (x4 : Int) (x5 : Int) (x6 : Int) (u : iST) : Prop :=
  br (1000000 ≤ x6) (
    Q (-1) u) (
    br (x2 ≠ 0) (
      pv_10_meaningOf x5 x2 (fun v1 u => 
      pv_10_rebuilt_38 R11 Q x2 x3 x4 x5 x6 v1 u) u) (
      pv_10_readMeaning x5 (fun v30 u => 
      pv_10_rebuilt_38 R11 Q x2 x3 x4 x5 x6 v30 u) u))
theorem cj_v_10_rebuilt_11b {Q1 Q2 Q3 : Int → iST → Prop} {R111 R112 R113 : Int → Int → Int → Int → Int → iST → Prop} {x2 : Int} {x3 : Int} {x4 : Int} {x5 : Int} {x6 : Int} {u : iST} (hR11 : ∀ r0 r1 r2 r3 r4 r5, R111 r0 r1 r2 r3 r4 r5 → R112 r0 r1 r2 r3 r4 r5 → R113 r0 r1 r2 r3 r4 r5) (hQ : ∀ r0 r1, Q1 r0 r1 → Q2 r0 r1 → Q3 r0 r1) : v_10_rebuilt_11b R111 Q1 x2 x3 x4 x5 x6 u → pv_10_rebuilt_11b R112 Q2 x2 x3 x4 x5 x6 u → v_10_rebuilt_11b R113 Q3 x2 x3 x4 x5 x6 u := (br_cj (hQ _ _) (br_cj (cj_v_10_meaningOf (fun _ _ => (cj_v_10_rebuilt_38 hR11 hQ))) (cj_v_10_readMeaning (fun _ _ => (cj_v_10_rebuilt_38 hR11 hQ)))))
theorem mn_v_10_rebuilt_11b {Q1 Q2 : Int → iST → Prop} {R111 R112 : Int → Int → Int → Int → Int → iST → Prop} {x2 : Int} {x3 : Int} {x4 : Int} {x5 : Int} {x6 : Int} {u : iST} (hR11 : ∀ r0 r1 r2 r3 r4 r5, R111 r0 r1 r2 r3 r4 r5 → R112 r0 r1 r2 r3 r4 r5) (hQ : ∀ r0 r1, Q1 r0 r1 → Q2 r0 r1) : pv_10_rebuilt_11b R111 Q1 x2 x3 x4 x5 x6 u → pv_10_rebuilt_11b R112 Q2 x2 x3 x4 x5 x6 u := (br_mn (hQ _ _) (br_mn (mn_v_10_meaningOf (fun _ _ => (mn_v_10_rebuilt_38 hR11 hQ))) (mn_v_10_readMeaning (fun _ _ => (mn_v_10_rebuilt_38 hR11 hQ)))))
theorem wp_v_10_rebuilt_11b {Q1 Q2 : Int → iST → Prop} {R111 R112 : Int → Int → Int → Int → Int → iST → Prop} {x2 : Int} {x3 : Int} {x4 : Int} {x5 : Int} {x6 : Int} {u : iST} (hR11 : ∀ r0 r1 r2 r3 r4 r5, R111 r0 r1 r2 r3 r4 r5 → R112 r0 r1 r2 r3 r4 r5) (hQ : ∀ r0 r1, Q1 r0 r1 → Q2 r0 r1) : v_10_rebuilt_11b R111 Q1 x2 x3 x4 x5 x6 u → pv_10_rebuilt_11b R112 Q2 x2 x3 x4 x5 x6 u := (br_wp (hQ _ _) (br_wp (wp_v_10_meaningOf (fun _ _ => (wp_v_10_rebuilt_38 hR11 hQ))) (wp_v_10_readMeaning (fun _ _ => (wp_v_10_rebuilt_38 hR11 hQ)))))
def pv_10_rebuilt_11 (Q : Int → iST → Prop) (x2 : Int) (x3 : Int) (x4 : Int) (x5 : Int) (x6 : Int) (u : iST) : Prop := ∃ R11 : Int → Int → Int → Int → Int → iST → Prop, (∀ (x2 : Int) (x3 : Int) (x4 : Int) (x5 : Int) (x6 : Int) (u : iST), R11 x2 x3 x4 x5 x6 u → pv_10_rebuilt_11b R11 Q x2 x3 x4 x5 x6 u) ∧ R11 x2 x3 x4 x5 x6 u
theorem cj_v_10_rebuilt_11 {Q1 Q2 Q3 : Int → iST → Prop}  {x2 : Int} {x3 : Int} {x4 : Int} {x5 : Int} {x6 : Int} {u : iST} (hQ : ∀ r0 r1, Q1 r0 r1 → Q2 r0 r1 → Q3 r0 r1) : v_10_rebuilt_11 Q1 x2 x3 x4 x5 x6 u → pv_10_rebuilt_11 Q2 x2 x3 x4 x5 x6 u → v_10_rebuilt_11 Q3 x2 x3 x4 x5 x6 u := by
  intro a b R3 c3
  obtain ⟨R2, c2, b2⟩ := b
  exact a (fun r0 r1 r2 r3 r4 r5 => R2 r0 r1 r2 r3 r4 r5 → R3 r0 r1 r2 r3 r4 r5) (fun r0 r1 r2 r3 r4 r5 a b => c3 r0 r1 r2 r3 r4 r5 (cj_v_10_rebuilt_11b (fun r0 r1 r2 r3 r4 r5 a b => a b) hQ a (c2 r0 r1 r2 r3 r4 r5 b))) b2
theorem pv_10_rebuilt_11_i  {Q : Int → iST → Prop} {x2 : Int} {x3 : Int} {x4 : Int} {x5 : Int} {x6 : Int} {u : iST} (I : Int → Int → Int → Int → Int → iST → Prop) (s : ∀ (x2 : Int) (x3 : Int) (x4 : Int) (x5 : Int) (x6 : Int) (u : iST), I x2 x3 x4 x5 x6 u → pv_10_rebuilt_11b I Q x2 x3 x4 x5 x6 u) (h : I x2 x3 x4 x5 x6 u) : pv_10_rebuilt_11 Q x2 x3 x4 x5 x6 u := ⟨I, s, h⟩
theorem mn_v_10_rebuilt_11 {Q1 Q2 : Int → iST → Prop}  {x2 : Int} {x3 : Int} {x4 : Int} {x5 : Int} {x6 : Int} {u : iST} (hQ : ∀ r0 r1, Q1 r0 r1 → Q2 r0 r1) : pv_10_rebuilt_11 Q1 x2 x3 x4 x5 x6 u → pv_10_rebuilt_11 Q2 x2 x3 x4 x5 x6 u := fun ⟨R, s, h⟩ => ⟨R, fun r0 r1 r2 r3 r4 r5 a => mn_v_10_rebuilt_11b (fun r0 r1 r2 r3 r4 r5 a => a) hQ (s r0 r1 r2 r3 r4 r5 a), h⟩
theorem un_v_10_rebuilt_11  {Q : Int → iST → Prop} {x2 : Int} {x3 : Int} {x4 : Int} {x5 : Int} {x6 : Int} {u : iST} : pv_10_rebuilt_11 Q x2 x3 x4 x5 x6 u → pv_10_rebuilt_11b (fun x2 x3 x4 x5 x6 u => pv_10_rebuilt_11 Q x2 x3 x4 x5 x6 u) Q x2 x3 x4 x5 x6 u := fun ⟨R, s, h⟩ => mn_v_10_rebuilt_11b (fun r0 r1 r2 r3 r4 r5 a => ⟨R, s, a⟩) (fun _ _ h => h) (s _ _ _ _ _ _ h)
theorem fo_v_10_rebuilt_11  {Q : Int → iST → Prop} {x2 : Int} {x3 : Int} {x4 : Int} {x5 : Int} {x6 : Int} {u : iST} : pv_10_rebuilt_11b (fun x2 x3 x4 x5 x6 u => pv_10_rebuilt_11 Q x2 x3 x4 x5 x6 u) Q x2 x3 x4 x5 x6 u → pv_10_rebuilt_11 Q x2 x3 x4 x5 x6 u := fun h => ⟨fun x2 x3 x4 x5 x6 u => pv_10_rebuilt_11b (fun x2 x3 x4 x5 x6 u => pv_10_rebuilt_11 Q x2 x3 x4 x5 x6 u) Q x2 x3 x4 x5 x6 u, fun r0 r1 r2 r3 r4 r5 a => mn_v_10_rebuilt_11b (fun r0 r1 r2 r3 r4 r5 a => un_v_10_rebuilt_11 a) (fun _ _ h => h) a, h⟩
theorem wp_v_10_rebuilt_11 {Q1 Q2 : Int → iST → Prop}  {x2 : Int} {x3 : Int} {x4 : Int} {x5 : Int} {x6 : Int} {u : iST} (hQ : ∀ r0 r1, Q1 r0 r1 → Q2 r0 r1) : v_10_rebuilt_11 Q1 x2 x3 x4 x5 x6 u → pv_10_rebuilt_11 Q2 x2 x3 x4 x5 x6 u := fun a => a (fun x2 x3 x4 x5 x6 u => pv_10_rebuilt_11 Q2 x2 x3 x4 x5 x6 u) (fun x2 x3 x4 x5 x6 u b => fo_v_10_rebuilt_11 (wp_v_10_rebuilt_11b (fun r0 r1 r2 r3 r4 r5 a => a) hQ b))
def pv_10_rebuilt (a0 : Int) (a1 : Int) (Q : Int → iST → Prop) (u : iST) : Prop :=
  pv_10_rebuilt_11 Q a1 0 0 a0 0 u
theorem cj_v_10_rebuilt {Q1 Q2 Q3 : Int → iST → Prop}  {a0 : Int} {a1 : Int} {u : iST} (hQ : ∀ r0 r1, Q1 r0 r1 → Q2 r0 r1 → Q3 r0 r1) : v_10_rebuilt a0 a1 Q1 u → pv_10_rebuilt a0 a1 Q2 u → v_10_rebuilt a0 a1 Q3 u := (cj_v_10_rebuilt_11  hQ)
theorem mn_v_10_rebuilt {Q1 Q2 : Int → iST → Prop}  {a0 : Int} {a1 : Int} {u : iST} (hQ : ∀ r0 r1, Q1 r0 r1 → Q2 r0 r1) : pv_10_rebuilt a0 a1 Q1 u → pv_10_rebuilt a0 a1 Q2 u := (mn_v_10_rebuilt_11  hQ)
theorem wp_v_10_rebuilt {Q1 Q2 : Int → iST → Prop}  {a0 : Int} {a1 : Int} {u : iST} (hQ : ∀ r0 r1, Q1 r0 r1 → Q2 r0 r1) : v_10_rebuilt a0 a1 Q1 u → pv_10_rebuilt a0 a1 Q2 u := (wp_v_10_rebuilt_11  hQ)
def pv_3_termAt (a0 : Int) (a1 : Int) (Q : Int → iST → Prop) (u : iST) : Prop :=
  pv_7_item a0 a1 (fun v1 u => 
  pv_10_rebuilt v1 0 (fun v2 u => 
  Q v2 u) u) u
theorem cj_v_3_termAt {Q1 Q2 Q3 : Int → iST → Prop}  {a0 : Int} {a1 : Int} {u : iST} (hQ : ∀ r0 r1, Q1 r0 r1 → Q2 r0 r1 → Q3 r0 r1) : v_3_termAt a0 a1 Q1 u → pv_3_termAt a0 a1 Q2 u → v_3_termAt a0 a1 Q3 u := (cj_v_7_item (fun _ _ => (cj_v_10_rebuilt (fun _ _ => (hQ _ _)))))
theorem mn_v_3_termAt {Q1 Q2 : Int → iST → Prop}  {a0 : Int} {a1 : Int} {u : iST} (hQ : ∀ r0 r1, Q1 r0 r1 → Q2 r0 r1) : pv_3_termAt a0 a1 Q1 u → pv_3_termAt a0 a1 Q2 u := (mn_v_7_item (fun _ _ => (mn_v_10_rebuilt (fun _ _ => (hQ _ _)))))
theorem wp_v_3_termAt {Q1 Q2 : Int → iST → Prop}  {a0 : Int} {a1 : Int} {u : iST} (hQ : ∀ r0 r1, Q1 r0 r1 → Q2 r0 r1) : v_3_termAt a0 a1 Q1 u → pv_3_termAt a0 a1 Q2 u := (wp_v_7_item (fun _ _ => (wp_v_10_rebuilt (fun _ _ => (hQ _ _)))))
def pv_3_isFormed_80b (R80 : Int → Int → Int → iST → Prop) (Q : Int → iST → Prop) (x1 : Int) (x2 : Int) (x5 : Int) (u : iST) : Prop :=
  bdp x2 16 (rd (yT_TERM_COUNTS.getD x2.toNat 0) (fun v6 => 
  br (v6 < x5) (
    ztp 1 (Q 1 u)) (
    pv_3_termAt x1 x5 (fun v7 u => 
    br (v7 ≠ (-1)) (
      ovp (x5 + 1) (
      R80 x1 x2 (x5 + 1) u)) (
      ztp 0 (Q 0 u))) u)))
theorem cj_v_3_isFormed_80b {Q1 Q2 Q3 : Int → iST → Prop} {R801 R802 R803 : Int → Int → Int → iST → Prop} {x1 : Int} {x2 : Int} {x5 : Int} {u : iST} (hR80 : ∀ r0 r1 r2 r3, R801 r0 r1 r2 r3 → R802 r0 r1 r2 r3 → R803 r0 r1 r2 r3) (hQ : ∀ r0 r1, Q1 r0 r1 → Q2 r0 r1 → Q3 r0 r1) : v_3_isFormed_80b R801 Q1 x1 x2 x5 u → pv_3_isFormed_80b R802 Q2 x1 x2 x5 u → v_3_isFormed_80b R803 Q3 x1 x2 x5 u := (bd_cj (rd_cj fun _ => (br_cj (zt_cj (hQ _ _)) (cj_v_3_termAt (fun _ _ => (br_cj (ov_cj (hR80 _ _ _ _)) (zt_cj (hQ _ _))))))))
theorem mn_v_3_isFormed_80b {Q1 Q2 : Int → iST → Prop} {R801 R802 : Int → Int → Int → iST → Prop} {x1 : Int} {x2 : Int} {x5 : Int} {u : iST} (hR80 : ∀ r0 r1 r2 r3, R801 r0 r1 r2 r3 → R802 r0 r1 r2 r3) (hQ : ∀ r0 r1, Q1 r0 r1 → Q2 r0 r1) : pv_3_isFormed_80b R801 Q1 x1 x2 x5 u → pv_3_isFormed_80b R802 Q2 x1 x2 x5 u := (bd_mn (rd_mn fun _ => (br_mn (zt_mn (hQ _ _)) (mn_v_3_termAt (fun _ _ => (br_mn (ov_mn (hR80 _ _ _ _)) (zt_mn (hQ _ _))))))))
theorem wp_v_3_isFormed_80b {Q1 Q2 : Int → iST → Prop} {R801 R802 : Int → Int → Int → iST → Prop} {x1 : Int} {x2 : Int} {x5 : Int} {u : iST} (hR80 : ∀ r0 r1 r2 r3, R801 r0 r1 r2 r3 → R802 r0 r1 r2 r3) (hQ : ∀ r0 r1, Q1 r0 r1 → Q2 r0 r1) : v_3_isFormed_80b R801 Q1 x1 x2 x5 u → pv_3_isFormed_80b R802 Q2 x1 x2 x5 u := (bd_wp (rd_wp fun _ => (br_wp (zt_wp (hQ _ _)) (wp_v_3_termAt (fun _ _ => (br_wp (ov_wp (hR80 _ _ _ _)) (zt_wp (hQ _ _))))))))
def pv_3_isFormed_80 (Q : Int → iST → Prop) (x1 : Int) (x2 : Int) (x5 : Int) (u : iST) : Prop := ∃ R80 : Int → Int → Int → iST → Prop, (∀ (x1 : Int) (x2 : Int) (x5 : Int) (u : iST), R80 x1 x2 x5 u → pv_3_isFormed_80b R80 Q x1 x2 x5 u) ∧ R80 x1 x2 x5 u
theorem cj_v_3_isFormed_80 {Q1 Q2 Q3 : Int → iST → Prop}  {x1 : Int} {x2 : Int} {x5 : Int} {u : iST} (hQ : ∀ r0 r1, Q1 r0 r1 → Q2 r0 r1 → Q3 r0 r1) : v_3_isFormed_80 Q1 x1 x2 x5 u → pv_3_isFormed_80 Q2 x1 x2 x5 u → v_3_isFormed_80 Q3 x1 x2 x5 u := by
  intro a b R3 c3
  obtain ⟨R2, c2, b2⟩ := b
  exact a (fun r0 r1 r2 r3 => R2 r0 r1 r2 r3 → R3 r0 r1 r2 r3) (fun r0 r1 r2 r3 a b => c3 r0 r1 r2 r3 (cj_v_3_isFormed_80b (fun r0 r1 r2 r3 a b => a b) hQ a (c2 r0 r1 r2 r3 b))) b2
theorem pv_3_isFormed_80_i  {Q : Int → iST → Prop} {x1 : Int} {x2 : Int} {x5 : Int} {u : iST} (I : Int → Int → Int → iST → Prop) (s : ∀ (x1 : Int) (x2 : Int) (x5 : Int) (u : iST), I x1 x2 x5 u → pv_3_isFormed_80b I Q x1 x2 x5 u) (h : I x1 x2 x5 u) : pv_3_isFormed_80 Q x1 x2 x5 u := ⟨I, s, h⟩
theorem mn_v_3_isFormed_80 {Q1 Q2 : Int → iST → Prop}  {x1 : Int} {x2 : Int} {x5 : Int} {u : iST} (hQ : ∀ r0 r1, Q1 r0 r1 → Q2 r0 r1) : pv_3_isFormed_80 Q1 x1 x2 x5 u → pv_3_isFormed_80 Q2 x1 x2 x5 u := fun ⟨R, s, h⟩ => ⟨R, fun r0 r1 r2 r3 a => mn_v_3_isFormed_80b (fun r0 r1 r2 r3 a => a) hQ (s r0 r1 r2 r3 a), h⟩
theorem un_v_3_isFormed_80  {Q : Int → iST → Prop} {x1 : Int} {x2 : Int} {x5 : Int} {u : iST} : pv_3_isFormed_80 Q x1 x2 x5 u → pv_3_isFormed_80b (fun x1 x2 x5 u => pv_3_isFormed_80 Q x1 x2 x5 u) Q x1 x2 x5 u := fun ⟨R, s, h⟩ => mn_v_3_isFormed_80b (fun r0 r1 r2 r3 a => ⟨R, s, a⟩) (fun _ _ h => h) (s _ _ _ _ h)
theorem fo_v_3_isFormed_80  {Q : Int → iST → Prop} {x1 : Int} {x2 : Int} {x5 : Int} {u : iST} : pv_3_isFormed_80b (fun x1 x2 x5 u => pv_3_isFormed_80 Q x1 x2 x5 u) Q x1 x2 x5 u → pv_3_isFormed_80 Q x1 x2 x5 u := fun h => ⟨fun x1 x2 x5 u => pv_3_isFormed_80b (fun x1 x2 x5 u => pv_3_isFormed_80 Q x1 x2 x5 u) Q x1 x2 x5 u, fun r0 r1 r2 r3 a => mn_v_3_isFormed_80b (fun r0 r1 r2 r3 a => un_v_3_isFormed_80 a) (fun _ _ h => h) a, h⟩
theorem wp_v_3_isFormed_80 {Q1 Q2 : Int → iST → Prop}  {x1 : Int} {x2 : Int} {x5 : Int} {u : iST} (hQ : ∀ r0 r1, Q1 r0 r1 → Q2 r0 r1) : v_3_isFormed_80 Q1 x1 x2 x5 u → pv_3_isFormed_80 Q2 x1 x2 x5 u := fun a => a (fun x1 x2 x5 u => pv_3_isFormed_80 Q2 x1 x2 x5 u) (fun x1 x2 x5 u b => fo_v_3_isFormed_80 (wp_v_3_isFormed_80b (fun r0 r1 r2 r3 a => a) hQ b))
def pv_3_isFormed_77 (Q : Int → iST → Prop) (x1 : Int) (x2 : Int) (u : iST) : Prop :=
  pv_3_isFormed_80 Q x1 x2 1 u
theorem cj_v_3_isFormed_77 {Q1 Q2 Q3 : Int → iST → Prop}  {x1 : Int} {x2 : Int} {u : iST} (hQ : ∀ r0 r1, Q1 r0 r1 → Q2 r0 r1 → Q3 r0 r1) : v_3_isFormed_77 Q1 x1 x2 u → pv_3_isFormed_77 Q2 x1 x2 u → v_3_isFormed_77 Q3 x1 x2 u := (cj_v_3_isFormed_80  hQ)
theorem mn_v_3_isFormed_77 {Q1 Q2 : Int → iST → Prop}  {x1 : Int} {x2 : Int} {u : iST} (hQ : ∀ r0 r1, Q1 r0 r1 → Q2 r0 r1) : pv_3_isFormed_77 Q1 x1 x2 u → pv_3_isFormed_77 Q2 x1 x2 u := (mn_v_3_isFormed_80  hQ)
theorem wp_v_3_isFormed_77 {Q1 Q2 : Int → iST → Prop}  {x1 : Int} {x2 : Int} {u : iST} (hQ : ∀ r0 r1, Q1 r0 r1 → Q2 r0 r1) : v_3_isFormed_77 Q1 x1 x2 u → pv_3_isFormed_77 Q2 x1 x2 u := (wp_v_3_isFormed_80  hQ)
def pv_3_isFormed_50 (Q : Int → iST → Prop) (x1 : Int) (x2 : Int) (x3 : Int) (y0 : Int) (u : iST) : Prop :=
  bdp x2 16 (rd (yT_LENGTHS.getD x2.toNat 0) (fun v4 => 
  br (x3 < v4) (
    ztp 0 (Q 0 u)) (
    bdp x2 16 (rd (yT_LENGTHS.getD x2.toNat 0) (fun v5 => 
    br (x3 ≤ v5) (
      pv_3_isFormed_77 Q x1 x2 u) (
      br (y0 ≠ 0) (
        pv_3_isFormed_77 Q x1 x2 u) (
        ztp 0 (Q 0 u))))))))
theorem cj_v_3_isFormed_50 {Q1 Q2 Q3 : Int → iST → Prop}  {x1 : Int} {x2 : Int} {x3 : Int} {y0 : Int} {u : iST} (hQ : ∀ r0 r1, Q1 r0 r1 → Q2 r0 r1 → Q3 r0 r1) : v_3_isFormed_50 Q1 x1 x2 x3 y0 u → pv_3_isFormed_50 Q2 x1 x2 x3 y0 u → v_3_isFormed_50 Q3 x1 x2 x3 y0 u := (bd_cj (rd_cj fun _ => (br_cj (zt_cj (hQ _ _)) (bd_cj (rd_cj fun _ => (br_cj (cj_v_3_isFormed_77  hQ) (br_cj (cj_v_3_isFormed_77  hQ) (zt_cj (hQ _ _)))))))))
theorem mn_v_3_isFormed_50 {Q1 Q2 : Int → iST → Prop}  {x1 : Int} {x2 : Int} {x3 : Int} {y0 : Int} {u : iST} (hQ : ∀ r0 r1, Q1 r0 r1 → Q2 r0 r1) : pv_3_isFormed_50 Q1 x1 x2 x3 y0 u → pv_3_isFormed_50 Q2 x1 x2 x3 y0 u := (bd_mn (rd_mn fun _ => (br_mn (zt_mn (hQ _ _)) (bd_mn (rd_mn fun _ => (br_mn (mn_v_3_isFormed_77  hQ) (br_mn (mn_v_3_isFormed_77  hQ) (zt_mn (hQ _ _)))))))))
theorem wp_v_3_isFormed_50 {Q1 Q2 : Int → iST → Prop}  {x1 : Int} {x2 : Int} {x3 : Int} {y0 : Int} {u : iST} (hQ : ∀ r0 r1, Q1 r0 r1 → Q2 r0 r1) : v_3_isFormed_50 Q1 x1 x2 x3 y0 u → pv_3_isFormed_50 Q2 x1 x2 x3 y0 u := (bd_wp (rd_wp fun _ => (br_wp (zt_wp (hQ _ _)) (bd_wp (rd_wp fun _ => (br_wp (wp_v_3_isFormed_77  hQ) (br_wp (wp_v_3_isFormed_77  hQ) (zt_wp (hQ _ _)))))))))
def pv_3_isFormed_45 (Q : Int → iST → Prop) (x1 : Int) (x2 : Int) (x3 : Int) (u : iST) : Prop :=
  pv_3_isFormed_50 Q x1 x2 x3 1 u
theorem cj_v_3_isFormed_45 {Q1 Q2 Q3 : Int → iST → Prop}  {x1 : Int} {x2 : Int} {x3 : Int} {u : iST} (hQ : ∀ r0 r1, Q1 r0 r1 → Q2 r0 r1 → Q3 r0 r1) : v_3_isFormed_45 Q1 x1 x2 x3 u → pv_3_isFormed_45 Q2 x1 x2 x3 u → v_3_isFormed_45 Q3 x1 x2 x3 u := (cj_v_3_isFormed_50  hQ)
theorem mn_v_3_isFormed_45 {Q1 Q2 : Int → iST → Prop}  {x1 : Int} {x2 : Int} {x3 : Int} {u : iST} (hQ : ∀ r0 r1, Q1 r0 r1 → Q2 r0 r1) : pv_3_isFormed_45 Q1 x1 x2 x3 u → pv_3_isFormed_45 Q2 x1 x2 x3 u := (mn_v_3_isFormed_50  hQ)
theorem wp_v_3_isFormed_45 {Q1 Q2 : Int → iST → Prop}  {x1 : Int} {x2 : Int} {x3 : Int} {u : iST} (hQ : ∀ r0 r1, Q1 r0 r1 → Q2 r0 r1) : v_3_isFormed_45 Q1 x1 x2 x3 u → pv_3_isFormed_45 Q2 x1 x2 x3 u := (wp_v_3_isFormed_50  hQ)
def pv_3_isFormed (a0 : Int) (Q : Int → iST → Prop) (u : iST) : Prop :=
  pv_7_left a0 (fun v1 u => 
  ovp (v1 - 28) (
  pv_7_lengthOf a0 (fun v3 u => 
  br ((v1 - 28) < 0) (
    ztp 0 (Q 0 u)) (
    br ((v1 - 28) ≤ 15) (
      br ((v1 - 28) = 12) (
        pv_3_isFormed_45 Q a0 (v1 - 28) v3 u) (
        br ((v1 - 28) ≠ 15) (
          pv_3_isFormed_50 Q a0 (v1 - 28) v3 0 u) (
          pv_3_isFormed_45 Q a0 (v1 - 28) v3 u))) (
      ztp 0 (Q 0 u)))) u)) u
theorem cj_v_3_isFormed {Q1 Q2 Q3 : Int → iST → Prop}  {a0 : Int} {u : iST} (hQ : ∀ r0 r1, Q1 r0 r1 → Q2 r0 r1 → Q3 r0 r1) : v_3_isFormed a0 Q1 u → pv_3_isFormed a0 Q2 u → v_3_isFormed a0 Q3 u := (cj_v_7_left (fun _ _ => (ov_cj (cj_v_7_lengthOf (fun _ _ => (br_cj (zt_cj (hQ _ _)) (br_cj (br_cj (cj_v_3_isFormed_45  hQ) (br_cj (cj_v_3_isFormed_50  hQ) (cj_v_3_isFormed_45  hQ))) (zt_cj (hQ _ _)))))))))
theorem mn_v_3_isFormed {Q1 Q2 : Int → iST → Prop}  {a0 : Int} {u : iST} (hQ : ∀ r0 r1, Q1 r0 r1 → Q2 r0 r1) : pv_3_isFormed a0 Q1 u → pv_3_isFormed a0 Q2 u := (mn_v_7_left (fun _ _ => (ov_mn (mn_v_7_lengthOf (fun _ _ => (br_mn (zt_mn (hQ _ _)) (br_mn (br_mn (mn_v_3_isFormed_45  hQ) (br_mn (mn_v_3_isFormed_50  hQ) (mn_v_3_isFormed_45  hQ))) (zt_mn (hQ _ _)))))))))
theorem wp_v_3_isFormed {Q1 Q2 : Int → iST → Prop}  {a0 : Int} {u : iST} (hQ : ∀ r0 r1, Q1 r0 r1 → Q2 r0 r1) : v_3_isFormed a0 Q1 u → pv_3_isFormed a0 Q2 u := (wp_v_7_left (fun _ _ => (ov_wp (wp_v_7_lengthOf (fun _ _ => (br_wp (zt_wp (hQ _ _)) (br_wp (br_wp (wp_v_3_isFormed_45  hQ) (br_wp (wp_v_3_isFormed_50  hQ) (wp_v_3_isFormed_45  hQ))) (zt_wp (hQ _ _)))))))))
def pv_7_isConstant (a0 : Int) (Q : Int → iST → Prop) (u : iST) : Prop :=
  br (a0 < 0) (
    ztp 0 (Q 0 u)) (
    rd (u.1 29) (fun v1 => 
    br (a0 < v1) (
      bdp a0 160000 (rl (u.2.2 a0) (fun v2 => 
      br (0 ≤ v2) (
        br (v2 < 4611686018427387904) (
          ztp 1 (Q 1 u)) (
          br (1 < a0) (
            ztp 0 (Q 0 u)) (
            ztp 1 (Q 1 u)))) (
        rl (wlushr v2 31) (fun v3 => 
        rd (wl2i v3) (fun v4 => 
        rd (wand v4 2147483647) (fun v5 => 
        br (v5 ≠ 2) (
          ztp 0 (Q 0 u)) (
          ztp 1 (Q 1 u))))))))) (
      ztp 0 (Q 0 u))))
theorem cj_v_7_isConstant {Q1 Q2 Q3 : Int → iST → Prop}  {a0 : Int} {u : iST} (hQ : ∀ r0 r1, Q1 r0 r1 → Q2 r0 r1 → Q3 r0 r1) : v_7_isConstant a0 Q1 u → pv_7_isConstant a0 Q2 u → v_7_isConstant a0 Q3 u := (br_cj (zt_cj (hQ _ _)) (rd_cj fun _ => (br_cj (bd_cj (rl_cj fun _ => (br_cj (br_cj (zt_cj (hQ _ _)) (br_cj (zt_cj (hQ _ _)) (zt_cj (hQ _ _)))) (rl_cj fun _ => (rd_cj fun _ => (rd_cj fun _ => (br_cj (zt_cj (hQ _ _)) (zt_cj (hQ _ _))))))))) (zt_cj (hQ _ _)))))
theorem mn_v_7_isConstant {Q1 Q2 : Int → iST → Prop}  {a0 : Int} {u : iST} (hQ : ∀ r0 r1, Q1 r0 r1 → Q2 r0 r1) : pv_7_isConstant a0 Q1 u → pv_7_isConstant a0 Q2 u := (br_mn (zt_mn (hQ _ _)) (rd_mn fun _ => (br_mn (bd_mn (rl_mn fun _ => (br_mn (br_mn (zt_mn (hQ _ _)) (br_mn (zt_mn (hQ _ _)) (zt_mn (hQ _ _)))) (rl_mn fun _ => (rd_mn fun _ => (rd_mn fun _ => (br_mn (zt_mn (hQ _ _)) (zt_mn (hQ _ _))))))))) (zt_mn (hQ _ _)))))
theorem wp_v_7_isConstant {Q1 Q2 : Int → iST → Prop}  {a0 : Int} {u : iST} (hQ : ∀ r0 r1, Q1 r0 r1 → Q2 r0 r1) : v_7_isConstant a0 Q1 u → pv_7_isConstant a0 Q2 u := (br_wp (zt_wp (hQ _ _)) (rd_wp fun _ => (br_wp (bd_wp (rl_wp fun _ => (br_wp (br_wp (zt_wp (hQ _ _)) (br_wp (zt_wp (hQ _ _)) (zt_wp (hQ _ _)))) (rl_wp fun _ => (rd_wp fun _ => (rd_wp fun _ => (br_wp (zt_wp (hQ _ _)) (zt_wp (hQ _ _))))))))) (zt_wp (hQ _ _)))))
def pv_10_isOfConstants_9b (R9 : Int → iST → Prop) (Q : Int → iST → Prop) (x2 : Int) (u : iST) : Prop :=
  pv_7_isPair x2 (fun v2 u => 
  br (v2 = 0) (
    ztp 1 (Q 1 u)) (
    pv_7_left x2 (fun v3 u => 
    pv_7_isConstant v3 (fun v4 u => 
    br (v4 ≠ 0) (
      pv_7_right x2 (fun v5 u => 
      R9 v5 u) u) (
      ztp 0 (Q 0 u))) u) u)) u
theorem cj_v_10_isOfConstants_9b {Q1 Q2 Q3 : Int → iST → Prop} {R91 R92 R93 : Int → iST → Prop} {x2 : Int} {u : iST} (hR9 : ∀ r0 r1, R91 r0 r1 → R92 r0 r1 → R93 r0 r1) (hQ : ∀ r0 r1, Q1 r0 r1 → Q2 r0 r1 → Q3 r0 r1) : v_10_isOfConstants_9b R91 Q1 x2 u → pv_10_isOfConstants_9b R92 Q2 x2 u → v_10_isOfConstants_9b R93 Q3 x2 u := (cj_v_7_isPair (fun _ _ => (br_cj (zt_cj (hQ _ _)) (cj_v_7_left (fun _ _ => (cj_v_7_isConstant (fun _ _ => (br_cj (cj_v_7_right (fun _ _ => (hR9 _ _))) (zt_cj (hQ _ _))))))))))
theorem mn_v_10_isOfConstants_9b {Q1 Q2 : Int → iST → Prop} {R91 R92 : Int → iST → Prop} {x2 : Int} {u : iST} (hR9 : ∀ r0 r1, R91 r0 r1 → R92 r0 r1) (hQ : ∀ r0 r1, Q1 r0 r1 → Q2 r0 r1) : pv_10_isOfConstants_9b R91 Q1 x2 u → pv_10_isOfConstants_9b R92 Q2 x2 u := (mn_v_7_isPair (fun _ _ => (br_mn (zt_mn (hQ _ _)) (mn_v_7_left (fun _ _ => (mn_v_7_isConstant (fun _ _ => (br_mn (mn_v_7_right (fun _ _ => (hR9 _ _))) (zt_mn (hQ _ _))))))))))
theorem wp_v_10_isOfConstants_9b {Q1 Q2 : Int → iST → Prop} {R91 R92 : Int → iST → Prop} {x2 : Int} {u : iST} (hR9 : ∀ r0 r1, R91 r0 r1 → R92 r0 r1) (hQ : ∀ r0 r1, Q1 r0 r1 → Q2 r0 r1) : v_10_isOfConstants_9b R91 Q1 x2 u → pv_10_isOfConstants_9b R92 Q2 x2 u := (wp_v_7_isPair (fun _ _ => (br_wp (zt_wp (hQ _ _)) (wp_v_7_left (fun _ _ => (wp_v_7_isConstant (fun _ _ => (br_wp (wp_v_7_right (fun _ _ => (hR9 _ _))) (zt_wp (hQ _ _))))))))))
def pv_10_isOfConstants_9 (Q : Int → iST → Prop) (x2 : Int) (u : iST) : Prop := ∃ R9 : Int → iST → Prop, (∀ (x2 : Int) (u : iST), R9 x2 u → pv_10_isOfConstants_9b R9 Q x2 u) ∧ R9 x2 u
theorem cj_v_10_isOfConstants_9 {Q1 Q2 Q3 : Int → iST → Prop}  {x2 : Int} {u : iST} (hQ : ∀ r0 r1, Q1 r0 r1 → Q2 r0 r1 → Q3 r0 r1) : v_10_isOfConstants_9 Q1 x2 u → pv_10_isOfConstants_9 Q2 x2 u → v_10_isOfConstants_9 Q3 x2 u := by
  intro a b R3 c3
  obtain ⟨R2, c2, b2⟩ := b
  exact a (fun r0 r1 => R2 r0 r1 → R3 r0 r1) (fun r0 r1 a b => c3 r0 r1 (cj_v_10_isOfConstants_9b (fun r0 r1 a b => a b) hQ a (c2 r0 r1 b))) b2
theorem pv_10_isOfConstants_9_i  {Q : Int → iST → Prop} {x2 : Int} {u : iST} (I : Int → iST → Prop) (s : ∀ (x2 : Int) (u : iST), I x2 u → pv_10_isOfConstants_9b I Q x2 u) (h : I x2 u) : pv_10_isOfConstants_9 Q x2 u := ⟨I, s, h⟩
theorem mn_v_10_isOfConstants_9 {Q1 Q2 : Int → iST → Prop}  {x2 : Int} {u : iST} (hQ : ∀ r0 r1, Q1 r0 r1 → Q2 r0 r1) : pv_10_isOfConstants_9 Q1 x2 u → pv_10_isOfConstants_9 Q2 x2 u := fun ⟨R, s, h⟩ => ⟨R, fun r0 r1 a => mn_v_10_isOfConstants_9b (fun r0 r1 a => a) hQ (s r0 r1 a), h⟩
theorem un_v_10_isOfConstants_9  {Q : Int → iST → Prop} {x2 : Int} {u : iST} : pv_10_isOfConstants_9 Q x2 u → pv_10_isOfConstants_9b (fun x2 u => pv_10_isOfConstants_9 Q x2 u) Q x2 u := fun ⟨R, s, h⟩ => mn_v_10_isOfConstants_9b (fun r0 r1 a => ⟨R, s, a⟩) (fun _ _ h => h) (s _ _ h)
theorem fo_v_10_isOfConstants_9  {Q : Int → iST → Prop} {x2 : Int} {u : iST} : pv_10_isOfConstants_9b (fun x2 u => pv_10_isOfConstants_9 Q x2 u) Q x2 u → pv_10_isOfConstants_9 Q x2 u := fun h => ⟨fun x2 u => pv_10_isOfConstants_9b (fun x2 u => pv_10_isOfConstants_9 Q x2 u) Q x2 u, fun r0 r1 a => mn_v_10_isOfConstants_9b (fun r0 r1 a => un_v_10_isOfConstants_9 a) (fun _ _ h => h) a, h⟩
theorem wp_v_10_isOfConstants_9 {Q1 Q2 : Int → iST → Prop}  {x2 : Int} {u : iST} (hQ : ∀ r0 r1, Q1 r0 r1 → Q2 r0 r1) : v_10_isOfConstants_9 Q1 x2 u → pv_10_isOfConstants_9 Q2 x2 u := fun a => a (fun x2 u => pv_10_isOfConstants_9 Q2 x2 u) (fun x2 u b => fo_v_10_isOfConstants_9 (wp_v_10_isOfConstants_9b (fun r0 r1 a => a) hQ b))
def pv_10_isOfConstants (a0 : Int) (Q : Int → iST → Prop) (u : iST) : Prop :=
  pv_7_right a0 (fun v1 u => 
  pv_10_isOfConstants_9 Q v1 u) u
theorem cj_v_10_isOfConstants {Q1 Q2 Q3 : Int → iST → Prop}  {a0 : Int} {u : iST} (hQ : ∀ r0 r1, Q1 r0 r1 → Q2 r0 r1 → Q3 r0 r1) : v_10_isOfConstants a0 Q1 u → pv_10_isOfConstants a0 Q2 u → v_10_isOfConstants a0 Q3 u := (cj_v_7_right (fun _ _ => (cj_v_10_isOfConstants_9  hQ)))
theorem mn_v_10_isOfConstants {Q1 Q2 : Int → iST → Prop}  {a0 : Int} {u : iST} (hQ : ∀ r0 r1, Q1 r0 r1 → Q2 r0 r1) : pv_10_isOfConstants a0 Q1 u → pv_10_isOfConstants a0 Q2 u := (mn_v_7_right (fun _ _ => (mn_v_10_isOfConstants_9  hQ)))
theorem wp_v_10_isOfConstants {Q1 Q2 : Int → iST → Prop}  {a0 : Int} {u : iST} (hQ : ∀ r0 r1, Q1 r0 r1 → Q2 r0 r1) : v_10_isOfConstants a0 Q1 u → pv_10_isOfConstants a0 Q2 u := (wp_v_7_right (fun _ _ => (wp_v_10_isOfConstants_9  hQ)))
def pv_3_valueAt (a0 : Int) (Q : Int → iST → Prop) (u : iST) : Prop :=
  pv_7_item a0 1 (fun v1 u => 
  pv_10_rebuilt v1 0 (fun v2 u => 
  pv_7_left v2 (fun v3 u => 
  pv_7_isCall v2 (fun v4 u => 
  br (v4 = 0) (
    Q (-1) u) (
    br (16 < v3) (
      Q (-1) u) (
      pv_10_isOfConstants v2 (fun v5 u => 
      br (v5 ≠ 0) (
        pv_7_item v2 1 (fun v6 u => 
        pv_7_valueOf v6 (fun v7 u => 
        pv_7_item v2 2 (fun v8 u => 
        pv_7_valueOf v8 (fun v9 u => 
        pv_7_item v2 3 (fun v10 u => 
        pv_7_valueOf v10 (fun v11 u => 
        pv_2_baseValue v3 v7 v9 v11 (fun v12 u => 
        Q v12 u) u) u) u) u) u) u) u) (
        Q (-1) u)) u))) u) u) u) u
theorem cj_v_3_valueAt {Q1 Q2 Q3 : Int → iST → Prop}  {a0 : Int} {u : iST} (hQ : ∀ r0 r1, Q1 r0 r1 → Q2 r0 r1 → Q3 r0 r1) : v_3_valueAt a0 Q1 u → pv_3_valueAt a0 Q2 u → v_3_valueAt a0 Q3 u := (cj_v_7_item (fun _ _ => (cj_v_10_rebuilt (fun _ _ => (cj_v_7_left (fun _ _ => (cj_v_7_isCall (fun _ _ => (br_cj (hQ _ _) (br_cj (hQ _ _) (cj_v_10_isOfConstants (fun _ _ => (br_cj (cj_v_7_item (fun _ _ => (cj_v_7_valueOf (fun _ _ => (cj_v_7_item (fun _ _ => (cj_v_7_valueOf (fun _ _ => (cj_v_7_item (fun _ _ => (cj_v_7_valueOf (fun _ _ => (cj_v_2_baseValue (fun _ _ => (hQ _ _))))))))))))))) (hQ _ _))))))))))))))
theorem mn_v_3_valueAt {Q1 Q2 : Int → iST → Prop}  {a0 : Int} {u : iST} (hQ : ∀ r0 r1, Q1 r0 r1 → Q2 r0 r1) : pv_3_valueAt a0 Q1 u → pv_3_valueAt a0 Q2 u := (mn_v_7_item (fun _ _ => (mn_v_10_rebuilt (fun _ _ => (mn_v_7_left (fun _ _ => (mn_v_7_isCall (fun _ _ => (br_mn (hQ _ _) (br_mn (hQ _ _) (mn_v_10_isOfConstants (fun _ _ => (br_mn (mn_v_7_item (fun _ _ => (mn_v_7_valueOf (fun _ _ => (mn_v_7_item (fun _ _ => (mn_v_7_valueOf (fun _ _ => (mn_v_7_item (fun _ _ => (mn_v_7_valueOf (fun _ _ => (mn_v_2_baseValue (fun _ _ => (hQ _ _))))))))))))))) (hQ _ _))))))))))))))
theorem wp_v_3_valueAt {Q1 Q2 : Int → iST → Prop}  {a0 : Int} {u : iST} (hQ : ∀ r0 r1, Q1 r0 r1 → Q2 r0 r1) : v_3_valueAt a0 Q1 u → pv_3_valueAt a0 Q2 u := (wp_v_7_item (fun _ _ => (wp_v_10_rebuilt (fun _ _ => (wp_v_7_left (fun _ _ => (wp_v_7_isCall (fun _ _ => (br_wp (hQ _ _) (br_wp (hQ _ _) (wp_v_10_isOfConstants (fun _ _ => (br_wp (wp_v_7_item (fun _ _ => (wp_v_7_valueOf (fun _ _ => (wp_v_7_item (fun _ _ => (wp_v_7_valueOf (fun _ _ => (wp_v_7_item (fun _ _ => (wp_v_7_valueOf (fun _ _ => (wp_v_2_baseValue (fun _ _ => (hQ _ _))))))))))))))) (hQ _ _))))))))))))))
def pv_3_isListOfTerms_60 (R20 : Int → Int → iST → Prop) (Q : Int → iST → Prop) (x3 : Int) (y0 : Int) (u : iST) : Prop :=
  pv_7_right x3 (fun v5 u => 
  R20 y0 v5 u) u
theorem cj_v_3_isListOfTerms_60 {Q1 Q2 Q3 : Int → iST → Prop} {R201 R202 R203 : Int → Int → iST → Prop} {x3 : Int} {y0 : Int} {u : iST} (hR20 : ∀ r0 r1 r2, R201 r0 r1 r2 → R202 r0 r1 r2 → R203 r0 r1 r2) (hQ : ∀ r0 r1, Q1 r0 r1 → Q2 r0 r1 → Q3 r0 r1) : v_3_isListOfTerms_60 R201 Q1 x3 y0 u → pv_3_isListOfTerms_60 R202 Q2 x3 y0 u → v_3_isListOfTerms_60 R203 Q3 x3 y0 u := (cj_v_7_right (fun _ _ => (hR20 _ _ _)))
theorem mn_v_3_isListOfTerms_60 {Q1 Q2 : Int → iST → Prop} {R201 R202 : Int → Int → iST → Prop} {x3 : Int} {y0 : Int} {u : iST} (hR20 : ∀ r0 r1 r2, R201 r0 r1 r2 → R202 r0 r1 r2) (hQ : ∀ r0 r1, Q1 r0 r1 → Q2 r0 r1) : pv_3_isListOfTerms_60 R201 Q1 x3 y0 u → pv_3_isListOfTerms_60 R202 Q2 x3 y0 u := (mn_v_7_right (fun _ _ => (hR20 _ _ _)))
theorem wp_v_3_isListOfTerms_60 {Q1 Q2 : Int → iST → Prop} {R201 R202 : Int → Int → iST → Prop} {x3 : Int} {y0 : Int} {u : iST} (hR20 : ∀ r0 r1 r2, R201 r0 r1 r2 → R202 r0 r1 r2) (hQ : ∀ r0 r1, Q1 r0 r1 → Q2 r0 r1) : v_3_isListOfTerms_60 R201 Q1 x3 y0 u → pv_3_isListOfTerms_60 R202 Q2 x3 y0 u := (wp_v_7_right (fun _ _ => (hR20 _ _ _)))
def pv_3_isListOfTerms_20b (R20 : Int → Int → iST → Prop) (Q : Int → iST → Prop) (x2 : Int) (x3 : Int) (u : iST) : Prop :=
  pv_7_isPair x3 (fun v2 u => 
  br (v2 = 0) (
    ztp x2 (Q x2 u)) (
    br (x2 = 0) (
      ztp x2 (Q x2 u)) (
      pv_7_left x3 (fun v3 u => 
      pv_10_rebuilt v3 0 (fun v4 u => 
      br (v4 = (-1)) (
        pv_3_isListOfTerms_60 R20 Q x3 0 u) (
        pv_3_isListOfTerms_60 R20 Q x3 1 u)) u) u))) u
theorem cj_v_3_isListOfTerms_20b {Q1 Q2 Q3 : Int → iST → Prop} {R201 R202 R203 : Int → Int → iST → Prop} {x2 : Int} {x3 : Int} {u : iST} (hR20 : ∀ r0 r1 r2, R201 r0 r1 r2 → R202 r0 r1 r2 → R203 r0 r1 r2) (hQ : ∀ r0 r1, Q1 r0 r1 → Q2 r0 r1 → Q3 r0 r1) : v_3_isListOfTerms_20b R201 Q1 x2 x3 u → pv_3_isListOfTerms_20b R202 Q2 x2 x3 u → v_3_isListOfTerms_20b R203 Q3 x2 x3 u := (cj_v_7_isPair (fun _ _ => (br_cj (zt_cj (hQ _ _)) (br_cj (zt_cj (hQ _ _)) (cj_v_7_left (fun _ _ => (cj_v_10_rebuilt (fun _ _ => (br_cj (cj_v_3_isListOfTerms_60 hR20 hQ) (cj_v_3_isListOfTerms_60 hR20 hQ))))))))))
theorem mn_v_3_isListOfTerms_20b {Q1 Q2 : Int → iST → Prop} {R201 R202 : Int → Int → iST → Prop} {x2 : Int} {x3 : Int} {u : iST} (hR20 : ∀ r0 r1 r2, R201 r0 r1 r2 → R202 r0 r1 r2) (hQ : ∀ r0 r1, Q1 r0 r1 → Q2 r0 r1) : pv_3_isListOfTerms_20b R201 Q1 x2 x3 u → pv_3_isListOfTerms_20b R202 Q2 x2 x3 u := (mn_v_7_isPair (fun _ _ => (br_mn (zt_mn (hQ _ _)) (br_mn (zt_mn (hQ _ _)) (mn_v_7_left (fun _ _ => (mn_v_10_rebuilt (fun _ _ => (br_mn (mn_v_3_isListOfTerms_60 hR20 hQ) (mn_v_3_isListOfTerms_60 hR20 hQ))))))))))
theorem wp_v_3_isListOfTerms_20b {Q1 Q2 : Int → iST → Prop} {R201 R202 : Int → Int → iST → Prop} {x2 : Int} {x3 : Int} {u : iST} (hR20 : ∀ r0 r1 r2, R201 r0 r1 r2 → R202 r0 r1 r2) (hQ : ∀ r0 r1, Q1 r0 r1 → Q2 r0 r1) : v_3_isListOfTerms_20b R201 Q1 x2 x3 u → pv_3_isListOfTerms_20b R202 Q2 x2 x3 u := (wp_v_7_isPair (fun _ _ => (br_wp (zt_wp (hQ _ _)) (br_wp (zt_wp (hQ _ _)) (wp_v_7_left (fun _ _ => (wp_v_10_rebuilt (fun _ _ => (br_wp (wp_v_3_isListOfTerms_60 hR20 hQ) (wp_v_3_isListOfTerms_60 hR20 hQ))))))))))
def pv_3_isListOfTerms_20 (Q : Int → iST → Prop) (x2 : Int) (x3 : Int) (u : iST) : Prop := ∃ R20 : Int → Int → iST → Prop, (∀ (x2 : Int) (x3 : Int) (u : iST), R20 x2 x3 u → pv_3_isListOfTerms_20b R20 Q x2 x3 u) ∧ R20 x2 x3 u
theorem cj_v_3_isListOfTerms_20 {Q1 Q2 Q3 : Int → iST → Prop}  {x2 : Int} {x3 : Int} {u : iST} (hQ : ∀ r0 r1, Q1 r0 r1 → Q2 r0 r1 → Q3 r0 r1) : v_3_isListOfTerms_20 Q1 x2 x3 u → pv_3_isListOfTerms_20 Q2 x2 x3 u → v_3_isListOfTerms_20 Q3 x2 x3 u := by
  intro a b R3 c3
  obtain ⟨R2, c2, b2⟩ := b
  exact a (fun r0 r1 r2 => R2 r0 r1 r2 → R3 r0 r1 r2) (fun r0 r1 r2 a b => c3 r0 r1 r2 (cj_v_3_isListOfTerms_20b (fun r0 r1 r2 a b => a b) hQ a (c2 r0 r1 r2 b))) b2
theorem pv_3_isListOfTerms_20_i  {Q : Int → iST → Prop} {x2 : Int} {x3 : Int} {u : iST} (I : Int → Int → iST → Prop) (s : ∀ (x2 : Int) (x3 : Int) (u : iST), I x2 x3 u → pv_3_isListOfTerms_20b I Q x2 x3 u) (h : I x2 x3 u) : pv_3_isListOfTerms_20 Q x2 x3 u := ⟨I, s, h⟩
theorem mn_v_3_isListOfTerms_20 {Q1 Q2 : Int → iST → Prop}  {x2 : Int} {x3 : Int} {u : iST} (hQ : ∀ r0 r1, Q1 r0 r1 → Q2 r0 r1) : pv_3_isListOfTerms_20 Q1 x2 x3 u → pv_3_isListOfTerms_20 Q2 x2 x3 u := fun ⟨R, s, h⟩ => ⟨R, fun r0 r1 r2 a => mn_v_3_isListOfTerms_20b (fun r0 r1 r2 a => a) hQ (s r0 r1 r2 a), h⟩
theorem un_v_3_isListOfTerms_20  {Q : Int → iST → Prop} {x2 : Int} {x3 : Int} {u : iST} : pv_3_isListOfTerms_20 Q x2 x3 u → pv_3_isListOfTerms_20b (fun x2 x3 u => pv_3_isListOfTerms_20 Q x2 x3 u) Q x2 x3 u := fun ⟨R, s, h⟩ => mn_v_3_isListOfTerms_20b (fun r0 r1 r2 a => ⟨R, s, a⟩) (fun _ _ h => h) (s _ _ _ h)
theorem fo_v_3_isListOfTerms_20  {Q : Int → iST → Prop} {x2 : Int} {x3 : Int} {u : iST} : pv_3_isListOfTerms_20b (fun x2 x3 u => pv_3_isListOfTerms_20 Q x2 x3 u) Q x2 x3 u → pv_3_isListOfTerms_20 Q x2 x3 u := fun h => ⟨fun x2 x3 u => pv_3_isListOfTerms_20b (fun x2 x3 u => pv_3_isListOfTerms_20 Q x2 x3 u) Q x2 x3 u, fun r0 r1 r2 a => mn_v_3_isListOfTerms_20b (fun r0 r1 r2 a => un_v_3_isListOfTerms_20 a) (fun _ _ h => h) a, h⟩
theorem wp_v_3_isListOfTerms_20 {Q1 Q2 : Int → iST → Prop}  {x2 : Int} {x3 : Int} {u : iST} (hQ : ∀ r0 r1, Q1 r0 r1 → Q2 r0 r1) : v_3_isListOfTerms_20 Q1 x2 x3 u → pv_3_isListOfTerms_20 Q2 x2 x3 u := fun a => a (fun x2 x3 u => pv_3_isListOfTerms_20 Q2 x2 x3 u) (fun x2 x3 u b => fo_v_3_isListOfTerms_20 (wp_v_3_isListOfTerms_20b (fun r0 r1 r2 a => a) hQ b))
def pv_3_isListOfTerms_17 (Q : Int → iST → Prop) (x1 : Int) (y0 : Int) (u : iST) : Prop :=
  pv_3_isListOfTerms_20 Q y0 x1 u
theorem cj_v_3_isListOfTerms_17 {Q1 Q2 Q3 : Int → iST → Prop}  {x1 : Int} {y0 : Int} {u : iST} (hQ : ∀ r0 r1, Q1 r0 r1 → Q2 r0 r1 → Q3 r0 r1) : v_3_isListOfTerms_17 Q1 x1 y0 u → pv_3_isListOfTerms_17 Q2 x1 y0 u → v_3_isListOfTerms_17 Q3 x1 y0 u := (cj_v_3_isListOfTerms_20  hQ)
theorem mn_v_3_isListOfTerms_17 {Q1 Q2 : Int → iST → Prop}  {x1 : Int} {y0 : Int} {u : iST} (hQ : ∀ r0 r1, Q1 r0 r1 → Q2 r0 r1) : pv_3_isListOfTerms_17 Q1 x1 y0 u → pv_3_isListOfTerms_17 Q2 x1 y0 u := (mn_v_3_isListOfTerms_20  hQ)
theorem wp_v_3_isListOfTerms_17 {Q1 Q2 : Int → iST → Prop}  {x1 : Int} {y0 : Int} {u : iST} (hQ : ∀ r0 r1, Q1 r0 r1 → Q2 r0 r1) : v_3_isListOfTerms_17 Q1 x1 y0 u → pv_3_isListOfTerms_17 Q2 x1 y0 u := (wp_v_3_isListOfTerms_20  hQ)
def pv_3_isListOfTerms (a0 : Int) (Q : Int → iST → Prop) (u : iST) : Prop :=
  pv_7_lengthOf a0 (fun v1 u => 
  br (v1 = (-1)) (
    pv_3_isListOfTerms_17 Q a0 0 u) (
    pv_3_isListOfTerms_17 Q a0 1 u)) u
theorem cj_v_3_isListOfTerms {Q1 Q2 Q3 : Int → iST → Prop}  {a0 : Int} {u : iST} (hQ : ∀ r0 r1, Q1 r0 r1 → Q2 r0 r1 → Q3 r0 r1) : v_3_isListOfTerms a0 Q1 u → pv_3_isListOfTerms a0 Q2 u → v_3_isListOfTerms a0 Q3 u := (cj_v_7_lengthOf (fun _ _ => (br_cj (cj_v_3_isListOfTerms_17  hQ) (cj_v_3_isListOfTerms_17  hQ))))
theorem mn_v_3_isListOfTerms {Q1 Q2 : Int → iST → Prop}  {a0 : Int} {u : iST} (hQ : ∀ r0 r1, Q1 r0 r1 → Q2 r0 r1) : pv_3_isListOfTerms a0 Q1 u → pv_3_isListOfTerms a0 Q2 u := (mn_v_7_lengthOf (fun _ _ => (br_mn (mn_v_3_isListOfTerms_17  hQ) (mn_v_3_isListOfTerms_17  hQ))))
theorem wp_v_3_isListOfTerms {Q1 Q2 : Int → iST → Prop}  {a0 : Int} {u : iST} (hQ : ∀ r0 r1, Q1 r0 r1 → Q2 r0 r1) : v_3_isListOfTerms a0 Q1 u → pv_3_isListOfTerms a0 Q2 u := (wp_v_7_lengthOf (fun _ _ => (br_wp (wp_v_3_isListOfTerms_17  hQ) (wp_v_3_isListOfTerms_17  hQ))))
def pv_10_bind (a0 : Int) (a1 : Int) (Q : iST → Prop) (u : iST) : Prop :=
  rd (u.1 39) (fun v1 => 
  br (256 ≤ v1) (
    Q u) (
    rd (u.1 39) (fun v2 => 
    bdp v2 256 (sw (iA u 35 v2 a0) (fun u => 
    rd (u.1 39) (fun v3 => 
    bdp v3 256 (sw (iA u 36 v3 a1) (fun u => 
    rd (u.1 39) (fun v4 => 
    ovp (v4 + 1) (
    sw (iI u 39 (v4 + 1)) (fun u => 
    Q u)))))))))))
theorem cj_v_10_bind {Q1 Q2 Q3 : iST → Prop}  {a0 : Int} {a1 : Int} {u : iST} (hQ : ∀ r0, Q1 r0 → Q2 r0 → Q3 r0) : v_10_bind a0 a1 Q1 u → pv_10_bind a0 a1 Q2 u → v_10_bind a0 a1 Q3 u := (rd_cj fun _ => (br_cj (hQ _) (rd_cj fun _ => (bd_cj (sw_cj fun _ => (rd_cj fun _ => (bd_cj (sw_cj fun _ => (rd_cj fun _ => (ov_cj (sw_cj fun _ => (hQ _))))))))))))
theorem mn_v_10_bind {Q1 Q2 : iST → Prop}  {a0 : Int} {a1 : Int} {u : iST} (hQ : ∀ r0, Q1 r0 → Q2 r0) : pv_10_bind a0 a1 Q1 u → pv_10_bind a0 a1 Q2 u := (rd_mn fun _ => (br_mn (hQ _) (rd_mn fun _ => (bd_mn (sw_mn fun _ => (rd_mn fun _ => (bd_mn (sw_mn fun _ => (rd_mn fun _ => (ov_mn (sw_mn fun _ => (hQ _))))))))))))
theorem wp_v_10_bind {Q1 Q2 : iST → Prop}  {a0 : Int} {a1 : Int} {u : iST} (hQ : ∀ r0, Q1 r0 → Q2 r0) : v_10_bind a0 a1 Q1 u → pv_10_bind a0 a1 Q2 u := (rd_wp fun _ => (br_wp (hQ _) (rd_wp fun _ => (bd_wp (sw_wp fun _ => (rd_wp fun _ => (bd_wp (sw_wp fun _ => (rd_wp fun _ => (ov_wp (sw_wp fun _ => (hQ _))))))))))))
def pv_10_bindPairs_67 (R7 : Int → iST → Prop) (Q : Int → iST → Prop) (x2 : Int) (x4 : Int) (y0 : Int) (u : iST) : Prop :=
  br (y0 = (-1)) (
    ztp 0 (Q 0 u)) (
    pv_7_isVariable x4 (fun v5 u => 
    br (v5 = 0) (
      ztp 0 (Q 0 u)) (
      pv_10_standsFor x4 (fun v6 u => 
      br (v6 = (-1)) (
        pv_10_bind x4 y0 (fun u => 
        pv_7_right x2 (fun v8 u => 
        R7 v8 u) u) u) (
        ztp 0 (Q 0 u))) u)) u)
theorem cj_v_10_bindPairs_67 {Q1 Q2 Q3 : Int → iST → Prop} {R71 R72 R73 : Int → iST → Prop} {x2 : Int} {x4 : Int} {y0 : Int} {u : iST} (hR7 : ∀ r0 r1, R71 r0 r1 → R72 r0 r1 → R73 r0 r1) (hQ : ∀ r0 r1, Q1 r0 r1 → Q2 r0 r1 → Q3 r0 r1) : v_10_bindPairs_67 R71 Q1 x2 x4 y0 u → pv_10_bindPairs_67 R72 Q2 x2 x4 y0 u → v_10_bindPairs_67 R73 Q3 x2 x4 y0 u := (br_cj (zt_cj (hQ _ _)) (cj_v_7_isVariable (fun _ _ => (br_cj (zt_cj (hQ _ _)) (cj_v_10_standsFor (fun _ _ => (br_cj (cj_v_10_bind (fun _ => (cj_v_7_right (fun _ _ => (hR7 _ _))))) (zt_cj (hQ _ _)))))))))
theorem mn_v_10_bindPairs_67 {Q1 Q2 : Int → iST → Prop} {R71 R72 : Int → iST → Prop} {x2 : Int} {x4 : Int} {y0 : Int} {u : iST} (hR7 : ∀ r0 r1, R71 r0 r1 → R72 r0 r1) (hQ : ∀ r0 r1, Q1 r0 r1 → Q2 r0 r1) : pv_10_bindPairs_67 R71 Q1 x2 x4 y0 u → pv_10_bindPairs_67 R72 Q2 x2 x4 y0 u := (br_mn (zt_mn (hQ _ _)) (mn_v_7_isVariable (fun _ _ => (br_mn (zt_mn (hQ _ _)) (mn_v_10_standsFor (fun _ _ => (br_mn (mn_v_10_bind (fun _ => (mn_v_7_right (fun _ _ => (hR7 _ _))))) (zt_mn (hQ _ _)))))))))
theorem wp_v_10_bindPairs_67 {Q1 Q2 : Int → iST → Prop} {R71 R72 : Int → iST → Prop} {x2 : Int} {x4 : Int} {y0 : Int} {u : iST} (hR7 : ∀ r0 r1, R71 r0 r1 → R72 r0 r1) (hQ : ∀ r0 r1, Q1 r0 r1 → Q2 r0 r1) : v_10_bindPairs_67 R71 Q1 x2 x4 y0 u → pv_10_bindPairs_67 R72 Q2 x2 x4 y0 u := (br_wp (zt_wp (hQ _ _)) (wp_v_7_isVariable (fun _ _ => (br_wp (zt_wp (hQ _ _)) (wp_v_10_standsFor (fun _ _ => (br_wp (wp_v_10_bind (fun _ => (wp_v_7_right (fun _ _ => (hR7 _ _))))) (zt_wp (hQ _ _)))))))))
def pv_10_bindPairs_7b (R7 : Int → iST → Prop) (Q : Int → iST → Prop) (x2 : Int) (u : iST) : Prop :=
  pv_7_isPair x2 (fun v1 u => 
  br (v1 = 0) (
    ztp 1 (Q 1 u)) (
    pv_7_left x2 (fun v2 u => 
    pv_7_left v2 (fun v3 u => 
    pv_7_lengthOf v2 (fun v4 u => 
    br (v4 ≠ 2) (
      pv_10_bindPairs_67 R7 Q x2 v3 (-1) u) (
      pv_7_item v2 1 (fun v9 u => 
      pv_10_rebuilt v9 0 (fun v10 u => 
      pv_10_bindPairs_67 R7 Q x2 v3 v10 u) u) u)) u) u) u)) u
theorem cj_v_10_bindPairs_7b {Q1 Q2 Q3 : Int → iST → Prop} {R71 R72 R73 : Int → iST → Prop} {x2 : Int} {u : iST} (hR7 : ∀ r0 r1, R71 r0 r1 → R72 r0 r1 → R73 r0 r1) (hQ : ∀ r0 r1, Q1 r0 r1 → Q2 r0 r1 → Q3 r0 r1) : v_10_bindPairs_7b R71 Q1 x2 u → pv_10_bindPairs_7b R72 Q2 x2 u → v_10_bindPairs_7b R73 Q3 x2 u := (cj_v_7_isPair (fun _ _ => (br_cj (zt_cj (hQ _ _)) (cj_v_7_left (fun _ _ => (cj_v_7_left (fun _ _ => (cj_v_7_lengthOf (fun _ _ => (br_cj (cj_v_10_bindPairs_67 hR7 hQ) (cj_v_7_item (fun _ _ => (cj_v_10_rebuilt (fun _ _ => (cj_v_10_bindPairs_67 hR7 hQ)))))))))))))))
theorem mn_v_10_bindPairs_7b {Q1 Q2 : Int → iST → Prop} {R71 R72 : Int → iST → Prop} {x2 : Int} {u : iST} (hR7 : ∀ r0 r1, R71 r0 r1 → R72 r0 r1) (hQ : ∀ r0 r1, Q1 r0 r1 → Q2 r0 r1) : pv_10_bindPairs_7b R71 Q1 x2 u → pv_10_bindPairs_7b R72 Q2 x2 u := (mn_v_7_isPair (fun _ _ => (br_mn (zt_mn (hQ _ _)) (mn_v_7_left (fun _ _ => (mn_v_7_left (fun _ _ => (mn_v_7_lengthOf (fun _ _ => (br_mn (mn_v_10_bindPairs_67 hR7 hQ) (mn_v_7_item (fun _ _ => (mn_v_10_rebuilt (fun _ _ => (mn_v_10_bindPairs_67 hR7 hQ)))))))))))))))
theorem wp_v_10_bindPairs_7b {Q1 Q2 : Int → iST → Prop} {R71 R72 : Int → iST → Prop} {x2 : Int} {u : iST} (hR7 : ∀ r0 r1, R71 r0 r1 → R72 r0 r1) (hQ : ∀ r0 r1, Q1 r0 r1 → Q2 r0 r1) : v_10_bindPairs_7b R71 Q1 x2 u → pv_10_bindPairs_7b R72 Q2 x2 u := (wp_v_7_isPair (fun _ _ => (br_wp (zt_wp (hQ _ _)) (wp_v_7_left (fun _ _ => (wp_v_7_left (fun _ _ => (wp_v_7_lengthOf (fun _ _ => (br_wp (wp_v_10_bindPairs_67 hR7 hQ) (wp_v_7_item (fun _ _ => (wp_v_10_rebuilt (fun _ _ => (wp_v_10_bindPairs_67 hR7 hQ)))))))))))))))
def pv_10_bindPairs_7 (Q : Int → iST → Prop) (x2 : Int) (u : iST) : Prop := ∃ R7 : Int → iST → Prop, (∀ (x2 : Int) (u : iST), R7 x2 u → pv_10_bindPairs_7b R7 Q x2 u) ∧ R7 x2 u
theorem cj_v_10_bindPairs_7 {Q1 Q2 Q3 : Int → iST → Prop}  {x2 : Int} {u : iST} (hQ : ∀ r0 r1, Q1 r0 r1 → Q2 r0 r1 → Q3 r0 r1) : v_10_bindPairs_7 Q1 x2 u → pv_10_bindPairs_7 Q2 x2 u → v_10_bindPairs_7 Q3 x2 u := by
  intro a b R3 c3
  obtain ⟨R2, c2, b2⟩ := b
  exact a (fun r0 r1 => R2 r0 r1 → R3 r0 r1) (fun r0 r1 a b => c3 r0 r1 (cj_v_10_bindPairs_7b (fun r0 r1 a b => a b) hQ a (c2 r0 r1 b))) b2
theorem pv_10_bindPairs_7_i  {Q : Int → iST → Prop} {x2 : Int} {u : iST} (I : Int → iST → Prop) (s : ∀ (x2 : Int) (u : iST), I x2 u → pv_10_bindPairs_7b I Q x2 u) (h : I x2 u) : pv_10_bindPairs_7 Q x2 u := ⟨I, s, h⟩
theorem mn_v_10_bindPairs_7 {Q1 Q2 : Int → iST → Prop}  {x2 : Int} {u : iST} (hQ : ∀ r0 r1, Q1 r0 r1 → Q2 r0 r1) : pv_10_bindPairs_7 Q1 x2 u → pv_10_bindPairs_7 Q2 x2 u := fun ⟨R, s, h⟩ => ⟨R, fun r0 r1 a => mn_v_10_bindPairs_7b (fun r0 r1 a => a) hQ (s r0 r1 a), h⟩
theorem un_v_10_bindPairs_7  {Q : Int → iST → Prop} {x2 : Int} {u : iST} : pv_10_bindPairs_7 Q x2 u → pv_10_bindPairs_7b (fun x2 u => pv_10_bindPairs_7 Q x2 u) Q x2 u := fun ⟨R, s, h⟩ => mn_v_10_bindPairs_7b (fun r0 r1 a => ⟨R, s, a⟩) (fun _ _ h => h) (s _ _ h)
theorem fo_v_10_bindPairs_7  {Q : Int → iST → Prop} {x2 : Int} {u : iST} : pv_10_bindPairs_7b (fun x2 u => pv_10_bindPairs_7 Q x2 u) Q x2 u → pv_10_bindPairs_7 Q x2 u := fun h => ⟨fun x2 u => pv_10_bindPairs_7b (fun x2 u => pv_10_bindPairs_7 Q x2 u) Q x2 u, fun r0 r1 a => mn_v_10_bindPairs_7b (fun r0 r1 a => un_v_10_bindPairs_7 a) (fun _ _ h => h) a, h⟩
theorem wp_v_10_bindPairs_7 {Q1 Q2 : Int → iST → Prop}  {x2 : Int} {u : iST} (hQ : ∀ r0 r1, Q1 r0 r1 → Q2 r0 r1) : v_10_bindPairs_7 Q1 x2 u → pv_10_bindPairs_7 Q2 x2 u := fun a => a (fun x2 u => pv_10_bindPairs_7 Q2 x2 u) (fun x2 u b => fo_v_10_bindPairs_7 (wp_v_10_bindPairs_7b (fun r0 r1 a => a) hQ b))
def pv_10_bindPairs (a0 : Int) (Q : Int → iST → Prop) (u : iST) : Prop :=
  sw (iI u 39 0) (fun u => 
  pv_10_bindPairs_7 Q a0 u)
theorem cj_v_10_bindPairs {Q1 Q2 Q3 : Int → iST → Prop}  {a0 : Int} {u : iST} (hQ : ∀ r0 r1, Q1 r0 r1 → Q2 r0 r1 → Q3 r0 r1) : v_10_bindPairs a0 Q1 u → pv_10_bindPairs a0 Q2 u → v_10_bindPairs a0 Q3 u := (sw_cj fun _ => (cj_v_10_bindPairs_7  hQ))
theorem mn_v_10_bindPairs {Q1 Q2 : Int → iST → Prop}  {a0 : Int} {u : iST} (hQ : ∀ r0 r1, Q1 r0 r1 → Q2 r0 r1) : pv_10_bindPairs a0 Q1 u → pv_10_bindPairs a0 Q2 u := (sw_mn fun _ => (mn_v_10_bindPairs_7  hQ))
theorem wp_v_10_bindPairs {Q1 Q2 : Int → iST → Prop}  {a0 : Int} {u : iST} (hQ : ∀ r0 r1, Q1 r0 r1 → Q2 r0 r1) : v_10_bindPairs a0 Q1 u → pv_10_bindPairs a0 Q2 u := (sw_wp fun _ => (wp_v_10_bindPairs_7  hQ))
def pv_7_isName (a0 : Int) (Q : Int → iST → Prop) (u : iST) : Prop :=
  br (a0 ≤ 16) (
    ztp 0 (Q 0 u)) (
    rd (u.1 29) (fun v1 => 
    br (v1 ≤ a0) (
      ztp 0 (Q 0 u)) (
      bdp a0 160000 (rl (u.2.2 a0) (fun v2 => 
      rl (wlushr v2 62) (fun v3 => 
      br (v3 ≠ 1) (
        ztp 0 (Q 0 u)) (
        ztp 1 (Q 1 u))))))))
theorem cj_v_7_isName {Q1 Q2 Q3 : Int → iST → Prop}  {a0 : Int} {u : iST} (hQ : ∀ r0 r1, Q1 r0 r1 → Q2 r0 r1 → Q3 r0 r1) : v_7_isName a0 Q1 u → pv_7_isName a0 Q2 u → v_7_isName a0 Q3 u := (br_cj (zt_cj (hQ _ _)) (rd_cj fun _ => (br_cj (zt_cj (hQ _ _)) (bd_cj (rl_cj fun _ => (rl_cj fun _ => (br_cj (zt_cj (hQ _ _)) (zt_cj (hQ _ _)))))))))
theorem mn_v_7_isName {Q1 Q2 : Int → iST → Prop}  {a0 : Int} {u : iST} (hQ : ∀ r0 r1, Q1 r0 r1 → Q2 r0 r1) : pv_7_isName a0 Q1 u → pv_7_isName a0 Q2 u := (br_mn (zt_mn (hQ _ _)) (rd_mn fun _ => (br_mn (zt_mn (hQ _ _)) (bd_mn (rl_mn fun _ => (rl_mn fun _ => (br_mn (zt_mn (hQ _ _)) (zt_mn (hQ _ _)))))))))
theorem wp_v_7_isName {Q1 Q2 : Int → iST → Prop}  {a0 : Int} {u : iST} (hQ : ∀ r0 r1, Q1 r0 r1 → Q2 r0 r1) : v_7_isName a0 Q1 u → pv_7_isName a0 Q2 u := (br_wp (zt_wp (hQ _ _)) (rd_wp fun _ => (br_wp (zt_wp (hQ _ _)) (bd_wp (rl_wp fun _ => (rl_wp fun _ => (br_wp (zt_wp (hQ _ _)) (zt_wp (hQ _ _)))))))))
def pv_10_areDifferentVariables_42b (R2 : Int → iST → Prop) (R42 : Int → Int → iST → Prop) (Q : Int → iST → Prop) (x2 : Int) (x3 : Int) (u : iST) : Prop :=
  pv_7_isPair x3 (fun v5 u => 
  br (v5 = 0) (
    pv_7_right x2 (fun v6 u => 
    R2 v6 u) u) (
    pv_7_left x3 (fun v7 u => 
    pv_7_left x2 (fun v8 u => 
    br (v7 ≠ v8) (
      pv_7_right x3 (fun v9 u => 
      R42 x2 v9 u) u) (
      ztp 0 (Q 0 u))) u) u)) u
theorem cj_v_10_areDifferentVariables_42b {Q1 Q2 Q3 : Int → iST → Prop} {R21 R22 R23 : Int → iST → Prop} {R421 R422 R423 : Int → Int → iST → Prop} {x2 : Int} {x3 : Int} {u : iST} (hR2 : ∀ r0 r1, R21 r0 r1 → R22 r0 r1 → R23 r0 r1) (hR42 : ∀ r0 r1 r2, R421 r0 r1 r2 → R422 r0 r1 r2 → R423 r0 r1 r2) (hQ : ∀ r0 r1, Q1 r0 r1 → Q2 r0 r1 → Q3 r0 r1) : v_10_areDifferentVariables_42b R21 R421 Q1 x2 x3 u → pv_10_areDifferentVariables_42b R22 R422 Q2 x2 x3 u → v_10_areDifferentVariables_42b R23 R423 Q3 x2 x3 u := (cj_v_7_isPair (fun _ _ => (br_cj (cj_v_7_right (fun _ _ => (hR2 _ _))) (cj_v_7_left (fun _ _ => (cj_v_7_left (fun _ _ => (br_cj (cj_v_7_right (fun _ _ => (hR42 _ _ _))) (zt_cj (hQ _ _))))))))))
theorem mn_v_10_areDifferentVariables_42b {Q1 Q2 : Int → iST → Prop} {R21 R22 : Int → iST → Prop} {R421 R422 : Int → Int → iST → Prop} {x2 : Int} {x3 : Int} {u : iST} (hR2 : ∀ r0 r1, R21 r0 r1 → R22 r0 r1) (hR42 : ∀ r0 r1 r2, R421 r0 r1 r2 → R422 r0 r1 r2) (hQ : ∀ r0 r1, Q1 r0 r1 → Q2 r0 r1) : pv_10_areDifferentVariables_42b R21 R421 Q1 x2 x3 u → pv_10_areDifferentVariables_42b R22 R422 Q2 x2 x3 u := (mn_v_7_isPair (fun _ _ => (br_mn (mn_v_7_right (fun _ _ => (hR2 _ _))) (mn_v_7_left (fun _ _ => (mn_v_7_left (fun _ _ => (br_mn (mn_v_7_right (fun _ _ => (hR42 _ _ _))) (zt_mn (hQ _ _))))))))))
theorem wp_v_10_areDifferentVariables_42b {Q1 Q2 : Int → iST → Prop} {R21 R22 : Int → iST → Prop} {R421 R422 : Int → Int → iST → Prop} {x2 : Int} {x3 : Int} {u : iST} (hR2 : ∀ r0 r1, R21 r0 r1 → R22 r0 r1) (hR42 : ∀ r0 r1 r2, R421 r0 r1 r2 → R422 r0 r1 r2) (hQ : ∀ r0 r1, Q1 r0 r1 → Q2 r0 r1) : v_10_areDifferentVariables_42b R21 R421 Q1 x2 x3 u → pv_10_areDifferentVariables_42b R22 R422 Q2 x2 x3 u := (wp_v_7_isPair (fun _ _ => (br_wp (wp_v_7_right (fun _ _ => (hR2 _ _))) (wp_v_7_left (fun _ _ => (wp_v_7_left (fun _ _ => (br_wp (wp_v_7_right (fun _ _ => (hR42 _ _ _))) (zt_wp (hQ _ _))))))))))
def pv_10_areDifferentVariables_42 (R2 : Int → iST → Prop) (Q : Int → iST → Prop) (x2 : Int) (x3 : Int) (u : iST) : Prop := ∃ R42 : Int → Int → iST → Prop, (∀ (x2 : Int) (x3 : Int) (u : iST), R42 x2 x3 u → pv_10_areDifferentVariables_42b R2 R42 Q x2 x3 u) ∧ R42 x2 x3 u
theorem cj_v_10_areDifferentVariables_42 {Q1 Q2 Q3 : Int → iST → Prop} {R21 R22 R23 : Int → iST → Prop} {x2 : Int} {x3 : Int} {u : iST} (hR2 : ∀ r0 r1, R21 r0 r1 → R22 r0 r1 → R23 r0 r1) (hQ : ∀ r0 r1, Q1 r0 r1 → Q2 r0 r1 → Q3 r0 r1) : v_10_areDifferentVariables_42 R21 Q1 x2 x3 u → pv_10_areDifferentVariables_42 R22 Q2 x2 x3 u → v_10_areDifferentVariables_42 R23 Q3 x2 x3 u := by
  intro a b R3 c3
  obtain ⟨R2, c2, b2⟩ := b
  exact a (fun r0 r1 r2 => R2 r0 r1 r2 → R3 r0 r1 r2) (fun r0 r1 r2 a b => c3 r0 r1 r2 (cj_v_10_areDifferentVariables_42b hR2 (fun r0 r1 r2 a b => a b) hQ a (c2 r0 r1 r2 b))) b2
theorem pv_10_areDifferentVariables_42_i {R2 : Int → iST → Prop} {Q : Int → iST → Prop} {x2 : Int} {x3 : Int} {u : iST} (I : Int → Int → iST → Prop) (s : ∀ (x2 : Int) (x3 : Int) (u : iST), I x2 x3 u → pv_10_areDifferentVariables_42b R2 I Q x2 x3 u) (h : I x2 x3 u) : pv_10_areDifferentVariables_42 R2 Q x2 x3 u := ⟨I, s, h⟩
theorem mn_v_10_areDifferentVariables_42 {Q1 Q2 : Int → iST → Prop} {R21 R22 : Int → iST → Prop} {x2 : Int} {x3 : Int} {u : iST} (hR2 : ∀ r0 r1, R21 r0 r1 → R22 r0 r1) (hQ : ∀ r0 r1, Q1 r0 r1 → Q2 r0 r1) : pv_10_areDifferentVariables_42 R21 Q1 x2 x3 u → pv_10_areDifferentVariables_42 R22 Q2 x2 x3 u := fun ⟨R, s, h⟩ => ⟨R, fun r0 r1 r2 a => mn_v_10_areDifferentVariables_42b hR2 (fun r0 r1 r2 a => a) hQ (s r0 r1 r2 a), h⟩
theorem un_v_10_areDifferentVariables_42 {R2 : Int → iST → Prop} {Q : Int → iST → Prop} {x2 : Int} {x3 : Int} {u : iST} : pv_10_areDifferentVariables_42 R2 Q x2 x3 u → pv_10_areDifferentVariables_42b R2 (fun x2 x3 u => pv_10_areDifferentVariables_42 R2 Q x2 x3 u) Q x2 x3 u := fun ⟨R, s, h⟩ => mn_v_10_areDifferentVariables_42b (fun _ _ h => h) (fun r0 r1 r2 a => ⟨R, s, a⟩) (fun _ _ h => h) (s _ _ _ h)
theorem fo_v_10_areDifferentVariables_42 {R2 : Int → iST → Prop} {Q : Int → iST → Prop} {x2 : Int} {x3 : Int} {u : iST} : pv_10_areDifferentVariables_42b R2 (fun x2 x3 u => pv_10_areDifferentVariables_42 R2 Q x2 x3 u) Q x2 x3 u → pv_10_areDifferentVariables_42 R2 Q x2 x3 u := fun h => ⟨fun x2 x3 u => pv_10_areDifferentVariables_42b R2 (fun x2 x3 u => pv_10_areDifferentVariables_42 R2 Q x2 x3 u) Q x2 x3 u, fun r0 r1 r2 a => mn_v_10_areDifferentVariables_42b (fun _ _ h => h) (fun r0 r1 r2 a => un_v_10_areDifferentVariables_42 a) (fun _ _ h => h) a, h⟩
theorem wp_v_10_areDifferentVariables_42 {Q1 Q2 : Int → iST → Prop} {R21 R22 : Int → iST → Prop} {x2 : Int} {x3 : Int} {u : iST} (hR2 : ∀ r0 r1, R21 r0 r1 → R22 r0 r1) (hQ : ∀ r0 r1, Q1 r0 r1 → Q2 r0 r1) : v_10_areDifferentVariables_42 R21 Q1 x2 x3 u → pv_10_areDifferentVariables_42 R22 Q2 x2 x3 u := fun a => a (fun x2 x3 u => pv_10_areDifferentVariables_42 R22 Q2 x2 x3 u) (fun x2 x3 u b => fo_v_10_areDifferentVariables_42 (wp_v_10_areDifferentVariables_42b hR2 (fun r0 r1 r2 a => a) hQ b))
