def pv_6_start (a0 : Int) (Q : iST → Prop) (u : iST) : Prop :=
  bdp 0 17 (rd (u.2.1 51 (17 * a0 + 0)) (fun v1 => 
  pv_7_isConstant v1 (fun v2 u => 
  br (v2 = 0) (
    pv_7_isCall v1 (fun v3 u => 
    br (v3 ≠ 0) (
      pv_7_isCallOf v1 3 (fun v4 u => 
      br (v4 = 0) (
        pv_7_isCallOf v1 6 (fun v5 u => 
        br (v5 = 0) (
          pv_7_isCallOf v1 16 (fun v6 u => 
          br (v6 = 0) (
            pv_7_right v1 (fun v7 u => 
            bdp 6 17 (sw (iA u 51 (17 * a0 + 6) v7) (fun u => 
            bdp 10 17 (sw (iA u 51 (17 * a0 + 10) (-1)) (fun u => 
            bdp 3 17 (sw (iA u 51 (17 * a0 + 3) 6) (fun u => 
            Q u))))))) u) (
            bdp 3 17 (sw (iA u 51 (17 * a0 + 3) 5) (fun u => 
            pv_7_item v1 1 (fun v8 u => 
            bdp 2 17 (rd (u.2.1 51 (17 * a0 + 2)) (fun v9 => 
            pv_6_ask v8 1 v9 (fun u => 
            Q u) u))) u)))) u) (
          pv_7_item v1 2 (fun v11 u => 
          pv_10_call 3 v11 1 0 (fun v12 u => 
          pv_7_item v1 1 (fun v13 u => 
          pv_10_call 3 v13 v12 1 (fun v14 u => 
          pv_6_askInstead a0 v14 (fun u => 
          Q u) u) u) u) u) u)) u) (
        bdp 3 17 (sw (iA u 51 (17 * a0 + 3) 2) (fun u => 
        pv_7_item v1 1 (fun v16 u => 
        bdp 2 17 (rd (u.2.1 51 (17 * a0 + 2)) (fun v17 => 
        pv_6_ask v16 1 v17 (fun u => 
        Q u) u))) u)))) u) (
      bdp 1 17 (rd (u.2.1 51 (17 * a0 + 1)) (fun v19 => 
      bdp 2 17 (rd (u.2.1 51 (17 * a0 + 2)) (fun v20 => 
      pv_6_lookedUp v1 v19 v20 (fun v21 u => 
      pv_6_finish v21 (fun u => 
      Q u) u) u)))))) u) (
    pv_6_finish v1 (fun u => 
    Q u) u)) u))
theorem cj_v_6_start {Q1 Q2 Q3 : iST → Prop}  {a0 : Int} {u : iST} (hQ : ∀ r0, Q1 r0 → Q2 r0 → Q3 r0) : v_6_start a0 Q1 u → pv_6_start a0 Q2 u → v_6_start a0 Q3 u := (bd_cj (rd_cj fun _ => (cj_v_7_isConstant (fun _ _ => (br_cj (cj_v_7_isCall (fun _ _ => (br_cj (cj_v_7_isCallOf (fun _ _ => (br_cj (cj_v_7_isCallOf (fun _ _ => (br_cj (cj_v_7_isCallOf (fun _ _ => (br_cj (cj_v_7_right (fun _ _ => (bd_cj (sw_cj fun _ => (bd_cj (sw_cj fun _ => (bd_cj (sw_cj fun _ => (hQ _))))))))) (bd_cj (sw_cj fun _ => (cj_v_7_item (fun _ _ => (bd_cj (rd_cj fun _ => (cj_v_6_ask (fun _ => (hQ _)))))))))))) (cj_v_7_item (fun _ _ => (cj_v_10_call (fun _ _ => (cj_v_7_item (fun _ _ => (cj_v_10_call (fun _ _ => (cj_v_6_askInstead (fun _ => (hQ _)))))))))))))) (bd_cj (sw_cj fun _ => (cj_v_7_item (fun _ _ => (bd_cj (rd_cj fun _ => (cj_v_6_ask (fun _ => (hQ _)))))))))))) (bd_cj (rd_cj fun _ => (bd_cj (rd_cj fun _ => (cj_v_6_lookedUp (fun _ _ => (cj_v_6_finish (fun _ => (hQ _)))))))))))) (cj_v_6_finish (fun _ => (hQ _))))))))
theorem mn_v_6_start {Q1 Q2 : iST → Prop}  {a0 : Int} {u : iST} (hQ : ∀ r0, Q1 r0 → Q2 r0) : pv_6_start a0 Q1 u → pv_6_start a0 Q2 u := (bd_mn (rd_mn fun _ => (mn_v_7_isConstant (fun _ _ => (br_mn (mn_v_7_isCall (fun _ _ => (br_mn (mn_v_7_isCallOf (fun _ _ => (br_mn (mn_v_7_isCallOf (fun _ _ => (br_mn (mn_v_7_isCallOf (fun _ _ => (br_mn (mn_v_7_right (fun _ _ => (bd_mn (sw_mn fun _ => (bd_mn (sw_mn fun _ => (bd_mn (sw_mn fun _ => (hQ _))))))))) (bd_mn (sw_mn fun _ => (mn_v_7_item (fun _ _ => (bd_mn (rd_mn fun _ => (mn_v_6_ask (fun _ => (hQ _)))))))))))) (mn_v_7_item (fun _ _ => (mn_v_10_call (fun _ _ => (mn_v_7_item (fun _ _ => (mn_v_10_call (fun _ _ => (mn_v_6_askInstead (fun _ => (hQ _)))))))))))))) (bd_mn (sw_mn fun _ => (mn_v_7_item (fun _ _ => (bd_mn (rd_mn fun _ => (mn_v_6_ask (fun _ => (hQ _)))))))))))) (bd_mn (rd_mn fun _ => (bd_mn (rd_mn fun _ => (mn_v_6_lookedUp (fun _ _ => (mn_v_6_finish (fun _ => (hQ _)))))))))))) (mn_v_6_finish (fun _ => (hQ _))))))))
theorem wp_v_6_start {Q1 Q2 : iST → Prop}  {a0 : Int} {u : iST} (hQ : ∀ r0, Q1 r0 → Q2 r0) : v_6_start a0 Q1 u → pv_6_start a0 Q2 u := (bd_wp (rd_wp fun _ => (wp_v_7_isConstant (fun _ _ => (br_wp (wp_v_7_isCall (fun _ _ => (br_wp (wp_v_7_isCallOf (fun _ _ => (br_wp (wp_v_7_isCallOf (fun _ _ => (br_wp (wp_v_7_isCallOf (fun _ _ => (br_wp (wp_v_7_right (fun _ _ => (bd_wp (sw_wp fun _ => (bd_wp (sw_wp fun _ => (bd_wp (sw_wp fun _ => (hQ _))))))))) (bd_wp (sw_wp fun _ => (wp_v_7_item (fun _ _ => (bd_wp (rd_wp fun _ => (wp_v_6_ask (fun _ => (hQ _)))))))))))) (wp_v_7_item (fun _ _ => (wp_v_10_call (fun _ _ => (wp_v_7_item (fun _ _ => (wp_v_10_call (fun _ _ => (wp_v_6_askInstead (fun _ => (hQ _)))))))))))))) (bd_wp (sw_wp fun _ => (wp_v_7_item (fun _ _ => (bd_wp (rd_wp fun _ => (wp_v_6_ask (fun _ => (hQ _)))))))))))) (bd_wp (rd_wp fun _ => (bd_wp (rd_wp fun _ => (wp_v_6_lookedUp (fun _ _ => (wp_v_6_finish (fun _ => (hQ _)))))))))))) (wp_v_6_finish (fun _ => (hQ _))))))))
def pv_6_goOnWithTest_127 (Q : iST → Prop) (x1 : Int) (y1 : Int) (u : iST) : Prop :=
  bdp 1 17 (rd (u.2.1 51 (17 * x1 + 1)) (fun v10 => 
  bdp 5 17 (rd (u.2.1 51 (17 * x1 + 5)) (fun v11 => 
  bdp 2 17 (rd (u.2.1 51 (17 * x1 + 2)) (fun v12 => 
  pv_11_pairCell v11 v12 (fun v13 u => 
  pv_7_made v13 (fun v14 u => 
  pv_6_ask y1 v10 v14 (fun u => 
  Q u) u) u) u))))))
theorem cj_v_6_goOnWithTest_127 {Q1 Q2 Q3 : iST → Prop}  {x1 : Int} {y1 : Int} {u : iST} (hQ : ∀ r0, Q1 r0 → Q2 r0 → Q3 r0) : v_6_goOnWithTest_127 Q1 x1 y1 u → pv_6_goOnWithTest_127 Q2 x1 y1 u → v_6_goOnWithTest_127 Q3 x1 y1 u := (bd_cj (rd_cj fun _ => (bd_cj (rd_cj fun _ => (bd_cj (rd_cj fun _ => (cj_v_11_pairCell (fun _ _ => (cj_v_7_made (fun _ _ => (cj_v_6_ask (fun _ => (hQ _)))))))))))))
theorem mn_v_6_goOnWithTest_127 {Q1 Q2 : iST → Prop}  {x1 : Int} {y1 : Int} {u : iST} (hQ : ∀ r0, Q1 r0 → Q2 r0) : pv_6_goOnWithTest_127 Q1 x1 y1 u → pv_6_goOnWithTest_127 Q2 x1 y1 u := (bd_mn (rd_mn fun _ => (bd_mn (rd_mn fun _ => (bd_mn (rd_mn fun _ => (mn_v_11_pairCell (fun _ _ => (mn_v_7_made (fun _ _ => (mn_v_6_ask (fun _ => (hQ _)))))))))))))
theorem wp_v_6_goOnWithTest_127 {Q1 Q2 : iST → Prop}  {x1 : Int} {y1 : Int} {u : iST} (hQ : ∀ r0, Q1 r0 → Q2 r0) : v_6_goOnWithTest_127 Q1 x1 y1 u → pv_6_goOnWithTest_127 Q2 x1 y1 u := (bd_wp (rd_wp fun _ => (bd_wp (rd_wp fun _ => (bd_wp (rd_wp fun _ => (wp_v_11_pairCell (fun _ _ => (wp_v_7_made (fun _ _ => (wp_v_6_ask (fun _ => (hQ _)))))))))))))
def pv_6_goOnWithTest_111 (Q : iST → Prop) (x1 : Int) (x2 : Int) (x3 : Int) (x4 : Int) (y0 : Int) (y1 : Int) (y2 : Int) (u : iST) : Prop :=
  bdp y1 17 (sw (iA u 51 (17 * y0 + y1) y2) (fun u => 
  bdp 3 17 (sw (iA u 51 (17 * x1 + 3) 3) (fun u => 
  br (x4 = 0) (
    pv_6_goOnWithTest_127 Q x1 x2 u) (
    pv_6_goOnWithTest_127 Q x1 x3 u)))))
theorem cj_v_6_goOnWithTest_111 {Q1 Q2 Q3 : iST → Prop}  {x1 : Int} {x2 : Int} {x3 : Int} {x4 : Int} {y0 : Int} {y1 : Int} {y2 : Int} {u : iST} (hQ : ∀ r0, Q1 r0 → Q2 r0 → Q3 r0) : v_6_goOnWithTest_111 Q1 x1 x2 x3 x4 y0 y1 y2 u → pv_6_goOnWithTest_111 Q2 x1 x2 x3 x4 y0 y1 y2 u → v_6_goOnWithTest_111 Q3 x1 x2 x3 x4 y0 y1 y2 u := (bd_cj (sw_cj fun _ => (bd_cj (sw_cj fun _ => (br_cj (cj_v_6_goOnWithTest_127  hQ) (cj_v_6_goOnWithTest_127  hQ))))))
theorem mn_v_6_goOnWithTest_111 {Q1 Q2 : iST → Prop}  {x1 : Int} {x2 : Int} {x3 : Int} {x4 : Int} {y0 : Int} {y1 : Int} {y2 : Int} {u : iST} (hQ : ∀ r0, Q1 r0 → Q2 r0) : pv_6_goOnWithTest_111 Q1 x1 x2 x3 x4 y0 y1 y2 u → pv_6_goOnWithTest_111 Q2 x1 x2 x3 x4 y0 y1 y2 u := (bd_mn (sw_mn fun _ => (bd_mn (sw_mn fun _ => (br_mn (mn_v_6_goOnWithTest_127  hQ) (mn_v_6_goOnWithTest_127  hQ))))))
theorem wp_v_6_goOnWithTest_111 {Q1 Q2 : iST → Prop}  {x1 : Int} {x2 : Int} {x3 : Int} {x4 : Int} {y0 : Int} {y1 : Int} {y2 : Int} {u : iST} (hQ : ∀ r0, Q1 r0 → Q2 r0) : v_6_goOnWithTest_111 Q1 x1 x2 x3 x4 y0 y1 y2 u → pv_6_goOnWithTest_111 Q2 x1 x2 x3 x4 y0 y1 y2 u := (bd_wp (sw_wp fun _ => (bd_wp (sw_wp fun _ => (br_wp (wp_v_6_goOnWithTest_127  hQ) (wp_v_6_goOnWithTest_127  hQ))))))
def pv_6_goOnWithTest_97 (Q : iST → Prop) (x1 : Int) (x2 : Int) (x3 : Int) (x4 : Int) (y0 : Int) (y1 : Int) (y2 : Int) (u : iST) : Prop :=
  bdp y1 17 (sw (iA u 51 (17 * y0 + y1) y2) (fun u => 
  br (x4 = 0) (
    pv_6_goOnWithTest_111 Q x1 x2 x3 x4 x1 6 x3 u) (
    pv_6_goOnWithTest_111 Q x1 x2 x3 x4 x1 6 x2 u)))
theorem cj_v_6_goOnWithTest_97 {Q1 Q2 Q3 : iST → Prop}  {x1 : Int} {x2 : Int} {x3 : Int} {x4 : Int} {y0 : Int} {y1 : Int} {y2 : Int} {u : iST} (hQ : ∀ r0, Q1 r0 → Q2 r0 → Q3 r0) : v_6_goOnWithTest_97 Q1 x1 x2 x3 x4 y0 y1 y2 u → pv_6_goOnWithTest_97 Q2 x1 x2 x3 x4 y0 y1 y2 u → v_6_goOnWithTest_97 Q3 x1 x2 x3 x4 y0 y1 y2 u := (bd_cj (sw_cj fun _ => (br_cj (cj_v_6_goOnWithTest_111  hQ) (cj_v_6_goOnWithTest_111  hQ))))
theorem mn_v_6_goOnWithTest_97 {Q1 Q2 : iST → Prop}  {x1 : Int} {x2 : Int} {x3 : Int} {x4 : Int} {y0 : Int} {y1 : Int} {y2 : Int} {u : iST} (hQ : ∀ r0, Q1 r0 → Q2 r0) : pv_6_goOnWithTest_97 Q1 x1 x2 x3 x4 y0 y1 y2 u → pv_6_goOnWithTest_97 Q2 x1 x2 x3 x4 y0 y1 y2 u := (bd_mn (sw_mn fun _ => (br_mn (mn_v_6_goOnWithTest_111  hQ) (mn_v_6_goOnWithTest_111  hQ))))
theorem wp_v_6_goOnWithTest_97 {Q1 Q2 : iST → Prop}  {x1 : Int} {x2 : Int} {x3 : Int} {x4 : Int} {y0 : Int} {y1 : Int} {y2 : Int} {u : iST} (hQ : ∀ r0, Q1 r0 → Q2 r0) : v_6_goOnWithTest_97 Q1 x1 x2 x3 x4 y0 y1 y2 u → pv_6_goOnWithTest_97 Q2 x1 x2 x3 x4 y0 y1 y2 u := (bd_wp (sw_wp fun _ => (br_wp (wp_v_6_goOnWithTest_111  hQ) (wp_v_6_goOnWithTest_111  hQ))))
def pv_6_goOnWithTest_52 (Q : iST → Prop) (y1 : Int) (y2 : Int) (u : iST) : Prop :=
  pv_6_askInstead y1 y2 (fun u => 
  Q u) u
theorem cj_v_6_goOnWithTest_52 {Q1 Q2 Q3 : iST → Prop}  {y1 : Int} {y2 : Int} {u : iST} (hQ : ∀ r0, Q1 r0 → Q2 r0 → Q3 r0) : v_6_goOnWithTest_52 Q1 y1 y2 u → pv_6_goOnWithTest_52 Q2 y1 y2 u → v_6_goOnWithTest_52 Q3 y1 y2 u := (cj_v_6_askInstead (fun _ => (hQ _)))
theorem mn_v_6_goOnWithTest_52 {Q1 Q2 : iST → Prop}  {y1 : Int} {y2 : Int} {u : iST} (hQ : ∀ r0, Q1 r0 → Q2 r0) : pv_6_goOnWithTest_52 Q1 y1 y2 u → pv_6_goOnWithTest_52 Q2 y1 y2 u := (mn_v_6_askInstead (fun _ => (hQ _)))
theorem wp_v_6_goOnWithTest_52 {Q1 Q2 : iST → Prop}  {y1 : Int} {y2 : Int} {u : iST} (hQ : ∀ r0, Q1 r0 → Q2 r0) : v_6_goOnWithTest_52 Q1 y1 y2 u → pv_6_goOnWithTest_52 Q2 y1 y2 u := (wp_v_6_askInstead (fun _ => (hQ _)))
def pv_6_goOnWithTest (a0 : Int) (Q : iST → Prop) (u : iST) : Prop :=
  bdp 0 17 (rd (u.2.1 51 (17 * a0 + 0)) (fun v1 => 
  pv_7_item v1 2 (fun v2 u => 
  bdp 0 17 (rd (u.2.1 51 (17 * a0 + 0)) (fun v3 => 
  pv_7_item v3 3 (fun v4 u => 
  rd (u.1 24) (fun v5 => 
  pv_7_isConstant v5 (fun v6 u => 
  br (v6 = 0) (
    rd (u.1 24) (fun v7 => 
    pv_7_isCallOf v7 16 (fun v8 u => 
    br (v8 = 0) (
      rd (u.1 24) (fun v9 => 
      pv_6_goOnWithTest_97 Q a0 v2 v4 v8 a0 5 v9 u)) (
      rd (u.1 24) (fun v16 => 
      pv_7_item v16 1 (fun v17 u => 
      pv_6_goOnWithTest_97 Q a0 v2 v4 v8 a0 5 v17 u) u))) u)) (
    rd (u.1 24) (fun v18 => 
    br (v18 = 0) (
      pv_6_goOnWithTest_52 Q a0 v4 u) (
      pv_6_goOnWithTest_52 Q a0 v2 u)))) u)) u))) u))
theorem cj_v_6_goOnWithTest {Q1 Q2 Q3 : iST → Prop}  {a0 : Int} {u : iST} (hQ : ∀ r0, Q1 r0 → Q2 r0 → Q3 r0) : v_6_goOnWithTest a0 Q1 u → pv_6_goOnWithTest a0 Q2 u → v_6_goOnWithTest a0 Q3 u := (bd_cj (rd_cj fun _ => (cj_v_7_item (fun _ _ => (bd_cj (rd_cj fun _ => (cj_v_7_item (fun _ _ => (rd_cj fun _ => (cj_v_7_isConstant (fun _ _ => (br_cj (rd_cj fun _ => (cj_v_7_isCallOf (fun _ _ => (br_cj (rd_cj fun _ => (cj_v_6_goOnWithTest_97  hQ)) (rd_cj fun _ => (cj_v_7_item (fun _ _ => (cj_v_6_goOnWithTest_97  hQ)))))))) (rd_cj fun _ => (br_cj (cj_v_6_goOnWithTest_52  hQ) (cj_v_6_goOnWithTest_52  hQ)))))))))))))))
theorem mn_v_6_goOnWithTest {Q1 Q2 : iST → Prop}  {a0 : Int} {u : iST} (hQ : ∀ r0, Q1 r0 → Q2 r0) : pv_6_goOnWithTest a0 Q1 u → pv_6_goOnWithTest a0 Q2 u := (bd_mn (rd_mn fun _ => (mn_v_7_item (fun _ _ => (bd_mn (rd_mn fun _ => (mn_v_7_item (fun _ _ => (rd_mn fun _ => (mn_v_7_isConstant (fun _ _ => (br_mn (rd_mn fun _ => (mn_v_7_isCallOf (fun _ _ => (br_mn (rd_mn fun _ => (mn_v_6_goOnWithTest_97  hQ)) (rd_mn fun _ => (mn_v_7_item (fun _ _ => (mn_v_6_goOnWithTest_97  hQ)))))))) (rd_mn fun _ => (br_mn (mn_v_6_goOnWithTest_52  hQ) (mn_v_6_goOnWithTest_52  hQ)))))))))))))))
theorem wp_v_6_goOnWithTest {Q1 Q2 : iST → Prop}  {a0 : Int} {u : iST} (hQ : ∀ r0, Q1 r0 → Q2 r0) : v_6_goOnWithTest a0 Q1 u → pv_6_goOnWithTest a0 Q2 u := (bd_wp (rd_wp fun _ => (wp_v_7_item (fun _ _ => (bd_wp (rd_wp fun _ => (wp_v_7_item (fun _ _ => (rd_wp fun _ => (wp_v_7_isConstant (fun _ _ => (br_wp (rd_wp fun _ => (wp_v_7_isCallOf (fun _ _ => (br_wp (rd_wp fun _ => (wp_v_6_goOnWithTest_97  hQ)) (rd_wp fun _ => (wp_v_7_item (fun _ _ => (wp_v_6_goOnWithTest_97  hQ)))))))) (rd_wp fun _ => (br_wp (wp_v_6_goOnWithTest_52  hQ) (wp_v_6_goOnWithTest_52  hQ)))))))))))))))
def pv_6_goOnWithThen (a0 : Int) (Q : iST → Prop) (u : iST) : Prop :=
  rd (u.1 24) (fun v1 => 
  bdp 7 17 (sw (iA u 51 (17 * a0 + 7) v1) (fun u => 
  bdp 3 17 (sw (iA u 51 (17 * a0 + 3) 4) (fun u => 
  bdp 5 17 (rd (u.2.1 51 (17 * a0 + 5)) (fun v2 => 
  pv_10_negated v2 (fun v3 u => 
  rd (u.1 32) (fun v4 => 
  br (v4 ≠ 0) (
    Q u) (
    bdp 6 17 (rd (u.2.1 51 (17 * a0 + 6)) (fun v5 => 
    bdp 1 17 (rd (u.2.1 51 (17 * a0 + 1)) (fun v6 => 
    bdp 2 17 (rd (u.2.1 51 (17 * a0 + 2)) (fun v7 => 
    pv_11_pairCell v3 v7 (fun v8 u => 
    pv_7_made v8 (fun v9 u => 
    pv_6_ask v5 v6 v9 (fun u => 
    Q u) u) u) u))))))))) u)))))))
theorem cj_v_6_goOnWithThen {Q1 Q2 Q3 : iST → Prop}  {a0 : Int} {u : iST} (hQ : ∀ r0, Q1 r0 → Q2 r0 → Q3 r0) : v_6_goOnWithThen a0 Q1 u → pv_6_goOnWithThen a0 Q2 u → v_6_goOnWithThen a0 Q3 u := (rd_cj fun _ => (bd_cj (sw_cj fun _ => (bd_cj (sw_cj fun _ => (bd_cj (rd_cj fun _ => (cj_v_10_negated (fun _ _ => (rd_cj fun _ => (br_cj (hQ _) (bd_cj (rd_cj fun _ => (bd_cj (rd_cj fun _ => (bd_cj (rd_cj fun _ => (cj_v_11_pairCell (fun _ _ => (cj_v_7_made (fun _ _ => (cj_v_6_ask (fun _ => (hQ _))))))))))))))))))))))))
theorem mn_v_6_goOnWithThen {Q1 Q2 : iST → Prop}  {a0 : Int} {u : iST} (hQ : ∀ r0, Q1 r0 → Q2 r0) : pv_6_goOnWithThen a0 Q1 u → pv_6_goOnWithThen a0 Q2 u := (rd_mn fun _ => (bd_mn (sw_mn fun _ => (bd_mn (sw_mn fun _ => (bd_mn (rd_mn fun _ => (mn_v_10_negated (fun _ _ => (rd_mn fun _ => (br_mn (hQ _) (bd_mn (rd_mn fun _ => (bd_mn (rd_mn fun _ => (bd_mn (rd_mn fun _ => (mn_v_11_pairCell (fun _ _ => (mn_v_7_made (fun _ _ => (mn_v_6_ask (fun _ => (hQ _))))))))))))))))))))))))
theorem wp_v_6_goOnWithThen {Q1 Q2 : iST → Prop}  {a0 : Int} {u : iST} (hQ : ∀ r0, Q1 r0 → Q2 r0) : v_6_goOnWithThen a0 Q1 u → pv_6_goOnWithThen a0 Q2 u := (rd_wp fun _ => (bd_wp (sw_wp fun _ => (bd_wp (sw_wp fun _ => (bd_wp (rd_wp fun _ => (wp_v_10_negated (fun _ _ => (rd_wp fun _ => (br_wp (hQ _) (bd_wp (rd_wp fun _ => (bd_wp (rd_wp fun _ => (bd_wp (rd_wp fun _ => (wp_v_11_pairCell (fun _ _ => (wp_v_7_made (fun _ _ => (wp_v_6_ask (fun _ => (hQ _))))))))))))))))))))))))
def pv_6_choice_57 (Q : Int → iST → Prop) (x1 : Int) (x2 : Int) (x3 : Int) (u : iST) : Prop :=
  pv_10_call 3 x1 x2 x3 (fun v1 u => 
  Q v1 u) u
theorem cj_v_6_choice_57 {Q1 Q2 Q3 : Int → iST → Prop}  {x1 : Int} {x2 : Int} {x3 : Int} {u : iST} (hQ : ∀ r0 r1, Q1 r0 r1 → Q2 r0 r1 → Q3 r0 r1) : v_6_choice_57 Q1 x1 x2 x3 u → pv_6_choice_57 Q2 x1 x2 x3 u → v_6_choice_57 Q3 x1 x2 x3 u := (cj_v_10_call (fun _ _ => (hQ _ _)))
theorem mn_v_6_choice_57 {Q1 Q2 : Int → iST → Prop}  {x1 : Int} {x2 : Int} {x3 : Int} {u : iST} (hQ : ∀ r0 r1, Q1 r0 r1 → Q2 r0 r1) : pv_6_choice_57 Q1 x1 x2 x3 u → pv_6_choice_57 Q2 x1 x2 x3 u := (mn_v_10_call (fun _ _ => (hQ _ _)))
theorem wp_v_6_choice_57 {Q1 Q2 : Int → iST → Prop}  {x1 : Int} {x2 : Int} {x3 : Int} {u : iST} (hQ : ∀ r0 r1, Q1 r0 r1 → Q2 r0 r1) : v_6_choice_57 Q1 x1 x2 x3 u → pv_6_choice_57 Q2 x1 x2 x3 u := (wp_v_10_call (fun _ _ => (hQ _ _)))
def pv_6_choice_35 (Q : Int → iST → Prop) (x1 : Int) (x2 : Int) (x3 : Int) (u : iST) : Prop :=
  br (x2 ≠ 0) (
    pv_6_choice_57 Q x1 x2 x3 u) (
    br (x3 ≠ 1) (
      pv_6_choice_57 Q x1 x2 x3 u) (
      pv_10_call 16 x1 (-1) (-1) (fun v2 u => 
      Q v2 u) u))
theorem cj_v_6_choice_35 {Q1 Q2 Q3 : Int → iST → Prop}  {x1 : Int} {x2 : Int} {x3 : Int} {u : iST} (hQ : ∀ r0 r1, Q1 r0 r1 → Q2 r0 r1 → Q3 r0 r1) : v_6_choice_35 Q1 x1 x2 x3 u → pv_6_choice_35 Q2 x1 x2 x3 u → v_6_choice_35 Q3 x1 x2 x3 u := (br_cj (cj_v_6_choice_57  hQ) (br_cj (cj_v_6_choice_57  hQ) (cj_v_10_call (fun _ _ => (hQ _ _)))))
theorem mn_v_6_choice_35 {Q1 Q2 : Int → iST → Prop}  {x1 : Int} {x2 : Int} {x3 : Int} {u : iST} (hQ : ∀ r0 r1, Q1 r0 r1 → Q2 r0 r1) : pv_6_choice_35 Q1 x1 x2 x3 u → pv_6_choice_35 Q2 x1 x2 x3 u := (br_mn (mn_v_6_choice_57  hQ) (br_mn (mn_v_6_choice_57  hQ) (mn_v_10_call (fun _ _ => (hQ _ _)))))
theorem wp_v_6_choice_35 {Q1 Q2 : Int → iST → Prop}  {x1 : Int} {x2 : Int} {x3 : Int} {u : iST} (hQ : ∀ r0 r1, Q1 r0 r1 → Q2 r0 r1) : v_6_choice_35 Q1 x1 x2 x3 u → pv_6_choice_35 Q2 x1 x2 x3 u := (br_wp (wp_v_6_choice_57  hQ) (br_wp (wp_v_6_choice_57  hQ) (wp_v_10_call (fun _ _ => (hQ _ _)))))
def pv_6_choice (a0 : Int) (a1 : Int) (a2 : Int) (a3 : Int) (Q : Int → iST → Prop) (u : iST) : Prop :=
  br (a1 ≠ a2) (
    br (a1 ≠ 1) (
      pv_6_choice_35 Q a0 a1 a2 u) (
      br (a2 ≠ 0) (
        pv_6_choice_35 Q a0 a1 a2 u) (
        br (a3 = 1) (
          Q a0 u) (
          pv_10_isBoolean a0 (fun v3 u => 
          br (v3 = 0) (
            pv_6_choice_35 Q a0 a1 a2 u) (
            Q a0 u)) u)))) (
    Q a1 u)
theorem cj_v_6_choice {Q1 Q2 Q3 : Int → iST → Prop}  {a0 : Int} {a1 : Int} {a2 : Int} {a3 : Int} {u : iST} (hQ : ∀ r0 r1, Q1 r0 r1 → Q2 r0 r1 → Q3 r0 r1) : v_6_choice a0 a1 a2 a3 Q1 u → pv_6_choice a0 a1 a2 a3 Q2 u → v_6_choice a0 a1 a2 a3 Q3 u := (br_cj (br_cj (cj_v_6_choice_35  hQ) (br_cj (cj_v_6_choice_35  hQ) (br_cj (hQ _ _) (cj_v_10_isBoolean (fun _ _ => (br_cj (cj_v_6_choice_35  hQ) (hQ _ _))))))) (hQ _ _))
theorem mn_v_6_choice {Q1 Q2 : Int → iST → Prop}  {a0 : Int} {a1 : Int} {a2 : Int} {a3 : Int} {u : iST} (hQ : ∀ r0 r1, Q1 r0 r1 → Q2 r0 r1) : pv_6_choice a0 a1 a2 a3 Q1 u → pv_6_choice a0 a1 a2 a3 Q2 u := (br_mn (br_mn (mn_v_6_choice_35  hQ) (br_mn (mn_v_6_choice_35  hQ) (br_mn (hQ _ _) (mn_v_10_isBoolean (fun _ _ => (br_mn (mn_v_6_choice_35  hQ) (hQ _ _))))))) (hQ _ _))
theorem wp_v_6_choice {Q1 Q2 : Int → iST → Prop}  {a0 : Int} {a1 : Int} {a2 : Int} {a3 : Int} {u : iST} (hQ : ∀ r0 r1, Q1 r0 r1 → Q2 r0 r1) : v_6_choice a0 a1 a2 a3 Q1 u → pv_6_choice a0 a1 a2 a3 Q2 u := (br_wp (br_wp (wp_v_6_choice_35  hQ) (br_wp (wp_v_6_choice_35  hQ) (br_wp (hQ _ _) (wp_v_10_isBoolean (fun _ _ => (br_wp (wp_v_6_choice_35  hQ) (hQ _ _))))))) (hQ _ _))
def pv_6_goOnWithNegation_111 (Q : iST → Prop) (y1 : Int) (u : iST) : Prop :=
  pv_6_finish y1 (fun u => 
  Q u) u
theorem cj_v_6_goOnWithNegation_111 {Q1 Q2 Q3 : iST → Prop}  {y1 : Int} {u : iST} (hQ : ∀ r0, Q1 r0 → Q2 r0 → Q3 r0) : v_6_goOnWithNegation_111 Q1 y1 u → pv_6_goOnWithNegation_111 Q2 y1 u → v_6_goOnWithNegation_111 Q3 y1 u := (cj_v_6_finish (fun _ => (hQ _)))
theorem mn_v_6_goOnWithNegation_111 {Q1 Q2 : iST → Prop}  {y1 : Int} {u : iST} (hQ : ∀ r0, Q1 r0 → Q2 r0) : pv_6_goOnWithNegation_111 Q1 y1 u → pv_6_goOnWithNegation_111 Q2 y1 u := (mn_v_6_finish (fun _ => (hQ _)))
theorem wp_v_6_goOnWithNegation_111 {Q1 Q2 : iST → Prop}  {y1 : Int} {u : iST} (hQ : ∀ r0, Q1 r0 → Q2 r0) : v_6_goOnWithNegation_111 Q1 y1 u → pv_6_goOnWithNegation_111 Q2 y1 u := (wp_v_6_finish (fun _ => (hQ _)))
def pv_6_goOnWithNegation_83 (Q : iST → Prop) (x1 : Int) (y0 : Int) (u : iST) : Prop :=
  pv_7_isConstant y0 (fun v5 u => 
  br (v5 = 0) (
    bdp 1 17 (rd (u.2.1 51 (17 * x1 + 1)) (fun v6 => 
    bdp 2 17 (rd (u.2.1 51 (17 * x1 + 2)) (fun v7 => 
    pv_6_lookedUp y0 v6 v7 (fun v8 u => 
    pv_6_goOnWithNegation_111 Q v8 u) u))))) (
    pv_6_goOnWithNegation_111 Q y0 u)) u
theorem cj_v_6_goOnWithNegation_83 {Q1 Q2 Q3 : iST → Prop}  {x1 : Int} {y0 : Int} {u : iST} (hQ : ∀ r0, Q1 r0 → Q2 r0 → Q3 r0) : v_6_goOnWithNegation_83 Q1 x1 y0 u → pv_6_goOnWithNegation_83 Q2 x1 y0 u → v_6_goOnWithNegation_83 Q3 x1 y0 u := (cj_v_7_isConstant (fun _ _ => (br_cj (bd_cj (rd_cj fun _ => (bd_cj (rd_cj fun _ => (cj_v_6_lookedUp (fun _ _ => (cj_v_6_goOnWithNegation_111  hQ))))))) (cj_v_6_goOnWithNegation_111  hQ))))
theorem mn_v_6_goOnWithNegation_83 {Q1 Q2 : iST → Prop}  {x1 : Int} {y0 : Int} {u : iST} (hQ : ∀ r0, Q1 r0 → Q2 r0) : pv_6_goOnWithNegation_83 Q1 x1 y0 u → pv_6_goOnWithNegation_83 Q2 x1 y0 u := (mn_v_7_isConstant (fun _ _ => (br_mn (bd_mn (rd_mn fun _ => (bd_mn (rd_mn fun _ => (mn_v_6_lookedUp (fun _ _ => (mn_v_6_goOnWithNegation_111  hQ))))))) (mn_v_6_goOnWithNegation_111  hQ))))
theorem wp_v_6_goOnWithNegation_83 {Q1 Q2 : iST → Prop}  {x1 : Int} {y0 : Int} {u : iST} (hQ : ∀ r0, Q1 r0 → Q2 r0) : v_6_goOnWithNegation_83 Q1 x1 y0 u → pv_6_goOnWithNegation_83 Q2 x1 y0 u := (wp_v_7_isConstant (fun _ _ => (br_wp (bd_wp (rd_wp fun _ => (bd_wp (rd_wp fun _ => (wp_v_6_lookedUp (fun _ _ => (wp_v_6_goOnWithNegation_111  hQ))))))) (wp_v_6_goOnWithNegation_111  hQ))))
def pv_6_goOnWithNegation_49 (Q : iST → Prop) (x1 : Int) (y0 : Int) (u : iST) : Prop :=
  br (y0 = 0) (
    rd (u.1 24) (fun v3 => 
    pv_10_negated v3 (fun v4 u => 
    pv_6_goOnWithNegation_83 Q x1 v4 u) u)) (
    rd (u.1 24) (fun v10 => 
    pv_10_call 16 v10 (-1) (-1) (fun v11 u => 
    pv_6_goOnWithNegation_83 Q x1 v11 u) u))
theorem cj_v_6_goOnWithNegation_49 {Q1 Q2 Q3 : iST → Prop}  {x1 : Int} {y0 : Int} {u : iST} (hQ : ∀ r0, Q1 r0 → Q2 r0 → Q3 r0) : v_6_goOnWithNegation_49 Q1 x1 y0 u → pv_6_goOnWithNegation_49 Q2 x1 y0 u → v_6_goOnWithNegation_49 Q3 x1 y0 u := (br_cj (rd_cj fun _ => (cj_v_10_negated (fun _ _ => (cj_v_6_goOnWithNegation_83  hQ)))) (rd_cj fun _ => (cj_v_10_call (fun _ _ => (cj_v_6_goOnWithNegation_83  hQ)))))
theorem mn_v_6_goOnWithNegation_49 {Q1 Q2 : iST → Prop}  {x1 : Int} {y0 : Int} {u : iST} (hQ : ∀ r0, Q1 r0 → Q2 r0) : pv_6_goOnWithNegation_49 Q1 x1 y0 u → pv_6_goOnWithNegation_49 Q2 x1 y0 u := (br_mn (rd_mn fun _ => (mn_v_10_negated (fun _ _ => (mn_v_6_goOnWithNegation_83  hQ)))) (rd_mn fun _ => (mn_v_10_call (fun _ _ => (mn_v_6_goOnWithNegation_83  hQ)))))
theorem wp_v_6_goOnWithNegation_49 {Q1 Q2 : iST → Prop}  {x1 : Int} {y0 : Int} {u : iST} (hQ : ∀ r0, Q1 r0 → Q2 r0) : v_6_goOnWithNegation_49 Q1 x1 y0 u → pv_6_goOnWithNegation_49 Q2 x1 y0 u := (br_wp (rd_wp fun _ => (wp_v_10_negated (fun _ _ => (wp_v_6_goOnWithNegation_83  hQ)))) (rd_wp fun _ => (wp_v_10_call (fun _ _ => (wp_v_6_goOnWithNegation_83  hQ)))))
def pv_6_goOnWithNegation_48 (Q : iST → Prop) (x1 : Int) (u : iST) : Prop :=
  pv_6_goOnWithNegation_49 Q x1 0 u
theorem cj_v_6_goOnWithNegation_48 {Q1 Q2 Q3 : iST → Prop}  {x1 : Int} {u : iST} (hQ : ∀ r0, Q1 r0 → Q2 r0 → Q3 r0) : v_6_goOnWithNegation_48 Q1 x1 u → pv_6_goOnWithNegation_48 Q2 x1 u → v_6_goOnWithNegation_48 Q3 x1 u := (cj_v_6_goOnWithNegation_49  hQ)
theorem mn_v_6_goOnWithNegation_48 {Q1 Q2 : iST → Prop}  {x1 : Int} {u : iST} (hQ : ∀ r0, Q1 r0 → Q2 r0) : pv_6_goOnWithNegation_48 Q1 x1 u → pv_6_goOnWithNegation_48 Q2 x1 u := (mn_v_6_goOnWithNegation_49  hQ)
theorem wp_v_6_goOnWithNegation_48 {Q1 Q2 : iST → Prop}  {x1 : Int} {u : iST} (hQ : ∀ r0, Q1 r0 → Q2 r0) : v_6_goOnWithNegation_48 Q1 x1 u → pv_6_goOnWithNegation_48 Q2 x1 u := (wp_v_6_goOnWithNegation_49  hQ)
def pv_6_goOnWithNegation (a0 : Int) (Q : iST → Prop) (u : iST) : Prop :=
  rd (u.1 24) (fun v1 => 
  pv_7_isCallOf v1 16 (fun v2 u => 
  br (v2 = 0) (
    pv_6_goOnWithNegation_48 Q a0 u) (
    bdp 1 17 (rd (u.2.1 51 (17 * a0 + 1)) (fun v12 => 
    br (v12 ≠ 0) (
      pv_6_goOnWithNegation_48 Q a0 u) (
      rd (u.1 24) (fun v13 => 
      pv_7_item v13 1 (fun v14 u => 
      pv_10_isBoolean v14 (fun v15 u => 
      br (v15 ≠ 0) (
        pv_6_goOnWithNegation_48 Q a0 u) (
        pv_6_goOnWithNegation_49 Q a0 1 u)) u) u)))))) u)
theorem cj_v_6_goOnWithNegation {Q1 Q2 Q3 : iST → Prop}  {a0 : Int} {u : iST} (hQ : ∀ r0, Q1 r0 → Q2 r0 → Q3 r0) : v_6_goOnWithNegation a0 Q1 u → pv_6_goOnWithNegation a0 Q2 u → v_6_goOnWithNegation a0 Q3 u := (rd_cj fun _ => (cj_v_7_isCallOf (fun _ _ => (br_cj (cj_v_6_goOnWithNegation_48  hQ) (bd_cj (rd_cj fun _ => (br_cj (cj_v_6_goOnWithNegation_48  hQ) (rd_cj fun _ => (cj_v_7_item (fun _ _ => (cj_v_10_isBoolean (fun _ _ => (br_cj (cj_v_6_goOnWithNegation_48  hQ) (cj_v_6_goOnWithNegation_49  hQ))))))))))))))
theorem mn_v_6_goOnWithNegation {Q1 Q2 : iST → Prop}  {a0 : Int} {u : iST} (hQ : ∀ r0, Q1 r0 → Q2 r0) : pv_6_goOnWithNegation a0 Q1 u → pv_6_goOnWithNegation a0 Q2 u := (rd_mn fun _ => (mn_v_7_isCallOf (fun _ _ => (br_mn (mn_v_6_goOnWithNegation_48  hQ) (bd_mn (rd_mn fun _ => (br_mn (mn_v_6_goOnWithNegation_48  hQ) (rd_mn fun _ => (mn_v_7_item (fun _ _ => (mn_v_10_isBoolean (fun _ _ => (br_mn (mn_v_6_goOnWithNegation_48  hQ) (mn_v_6_goOnWithNegation_49  hQ))))))))))))))
theorem wp_v_6_goOnWithNegation {Q1 Q2 : iST → Prop}  {a0 : Int} {u : iST} (hQ : ∀ r0, Q1 r0 → Q2 r0) : v_6_goOnWithNegation a0 Q1 u → pv_6_goOnWithNegation a0 Q2 u := (rd_wp fun _ => (wp_v_7_isCallOf (fun _ _ => (br_wp (wp_v_6_goOnWithNegation_48  hQ) (bd_wp (rd_wp fun _ => (br_wp (wp_v_6_goOnWithNegation_48  hQ) (rd_wp fun _ => (wp_v_7_item (fun _ _ => (wp_v_10_isBoolean (fun _ _ => (br_wp (wp_v_6_goOnWithNegation_48  hQ) (wp_v_6_goOnWithNegation_49  hQ))))))))))))))
def pv_6_gather_97b (R97 : Int → Int → Int → iST → Prop) (Q : iST → Prop) (x1 : Int) (x3 : Int) (x4 : Int) (u : iST) : Prop :=
  br (x4 < 0) (
    bdp 0 17 (rd (u.2.1 51 (17 * x1 + 0)) (fun v9 => 
    pv_7_left v9 (fun v10 u => 
    pv_11_pairCell v10 x3 (fun v11 u => 
    pv_7_made v11 (fun v12 u => 
    bdp 5 17 (sw (iA u 51 (17 * x1 + 5) v12) (fun u => 
    bdp 3 17 (sw (iA u 51 (17 * x1 + 3) 7) (fun u => 
    bdp 5 17 (rd (u.2.1 51 (17 * x1 + 5)) (fun v13 => 
    pv_7_sizeOf v13 (fun v14 u => 
    br (v14 ≤ 120) (
      Q u) (
      pv_7_blame 4 (fun u => 
      Q u) u)) u))))))) u) u) u))) (
    ovp (11 + x4) (
    bdp (11 + x4) 17 (rd (u.2.1 51 (17 * x1 + (11 + x4))) (fun v17 => 
    pv_11_pairCell v17 x3 (fun v18 u => 
    pv_7_made v18 (fun v19 u => 
    ovp (x4 + (-1)) (
    R97 x1 v19 (x4 + (-1)) u)) u) u))))
theorem cj_v_6_gather_97b {Q1 Q2 Q3 : iST → Prop} {R971 R972 R973 : Int → Int → Int → iST → Prop} {x1 : Int} {x3 : Int} {x4 : Int} {u : iST} (hR97 : ∀ r0 r1 r2 r3, R971 r0 r1 r2 r3 → R972 r0 r1 r2 r3 → R973 r0 r1 r2 r3) (hQ : ∀ r0, Q1 r0 → Q2 r0 → Q3 r0) : v_6_gather_97b R971 Q1 x1 x3 x4 u → pv_6_gather_97b R972 Q2 x1 x3 x4 u → v_6_gather_97b R973 Q3 x1 x3 x4 u := (br_cj (bd_cj (rd_cj fun _ => (cj_v_7_left (fun _ _ => (cj_v_11_pairCell (fun _ _ => (cj_v_7_made (fun _ _ => (bd_cj (sw_cj fun _ => (bd_cj (sw_cj fun _ => (bd_cj (rd_cj fun _ => (cj_v_7_sizeOf (fun _ _ => (br_cj (hQ _) (cj_v_7_blame (fun _ => (hQ _)))))))))))))))))))) (ov_cj (bd_cj (rd_cj fun _ => (cj_v_11_pairCell (fun _ _ => (cj_v_7_made (fun _ _ => (ov_cj (hR97 _ _ _ _))))))))))
theorem mn_v_6_gather_97b {Q1 Q2 : iST → Prop} {R971 R972 : Int → Int → Int → iST → Prop} {x1 : Int} {x3 : Int} {x4 : Int} {u : iST} (hR97 : ∀ r0 r1 r2 r3, R971 r0 r1 r2 r3 → R972 r0 r1 r2 r3) (hQ : ∀ r0, Q1 r0 → Q2 r0) : pv_6_gather_97b R971 Q1 x1 x3 x4 u → pv_6_gather_97b R972 Q2 x1 x3 x4 u := (br_mn (bd_mn (rd_mn fun _ => (mn_v_7_left (fun _ _ => (mn_v_11_pairCell (fun _ _ => (mn_v_7_made (fun _ _ => (bd_mn (sw_mn fun _ => (bd_mn (sw_mn fun _ => (bd_mn (rd_mn fun _ => (mn_v_7_sizeOf (fun _ _ => (br_mn (hQ _) (mn_v_7_blame (fun _ => (hQ _)))))))))))))))))))) (ov_mn (bd_mn (rd_mn fun _ => (mn_v_11_pairCell (fun _ _ => (mn_v_7_made (fun _ _ => (ov_mn (hR97 _ _ _ _))))))))))
theorem wp_v_6_gather_97b {Q1 Q2 : iST → Prop} {R971 R972 : Int → Int → Int → iST → Prop} {x1 : Int} {x3 : Int} {x4 : Int} {u : iST} (hR97 : ∀ r0 r1 r2 r3, R971 r0 r1 r2 r3 → R972 r0 r1 r2 r3) (hQ : ∀ r0, Q1 r0 → Q2 r0) : v_6_gather_97b R971 Q1 x1 x3 x4 u → pv_6_gather_97b R972 Q2 x1 x3 x4 u := (br_wp (bd_wp (rd_wp fun _ => (wp_v_7_left (fun _ _ => (wp_v_11_pairCell (fun _ _ => (wp_v_7_made (fun _ _ => (bd_wp (sw_wp fun _ => (bd_wp (sw_wp fun _ => (bd_wp (rd_wp fun _ => (wp_v_7_sizeOf (fun _ _ => (br_wp (hQ _) (wp_v_7_blame (fun _ => (hQ _)))))))))))))))))))) (ov_wp (bd_wp (rd_wp fun _ => (wp_v_11_pairCell (fun _ _ => (wp_v_7_made (fun _ _ => (ov_wp (hR97 _ _ _ _))))))))))
def pv_6_gather_97 (Q : iST → Prop) (x1 : Int) (x3 : Int) (x4 : Int) (u : iST) : Prop := ∃ R97 : Int → Int → Int → iST → Prop, (∀ (x1 : Int) (x3 : Int) (x4 : Int) (u : iST), R97 x1 x3 x4 u → pv_6_gather_97b R97 Q x1 x3 x4 u) ∧ R97 x1 x3 x4 u
theorem cj_v_6_gather_97 {Q1 Q2 Q3 : iST → Prop}  {x1 : Int} {x3 : Int} {x4 : Int} {u : iST} (hQ : ∀ r0, Q1 r0 → Q2 r0 → Q3 r0) : v_6_gather_97 Q1 x1 x3 x4 u → pv_6_gather_97 Q2 x1 x3 x4 u → v_6_gather_97 Q3 x1 x3 x4 u := by
  intro a b R3 c3
  obtain ⟨R2, c2, b2⟩ := b
  exact a (fun r0 r1 r2 r3 => R2 r0 r1 r2 r3 → R3 r0 r1 r2 r3) (fun r0 r1 r2 r3 a b => c3 r0 r1 r2 r3 (cj_v_6_gather_97b (fun r0 r1 r2 r3 a b => a b) hQ a (c2 r0 r1 r2 r3 b))) b2
theorem pv_6_gather_97_i  {Q : iST → Prop} {x1 : Int} {x3 : Int} {x4 : Int} {u : iST} (I : Int → Int → Int → iST → Prop) (s : ∀ (x1 : Int) (x3 : Int) (x4 : Int) (u : iST), I x1 x3 x4 u → pv_6_gather_97b I Q x1 x3 x4 u) (h : I x1 x3 x4 u) : pv_6_gather_97 Q x1 x3 x4 u := ⟨I, s, h⟩
theorem mn_v_6_gather_97 {Q1 Q2 : iST → Prop}  {x1 : Int} {x3 : Int} {x4 : Int} {u : iST} (hQ : ∀ r0, Q1 r0 → Q2 r0) : pv_6_gather_97 Q1 x1 x3 x4 u → pv_6_gather_97 Q2 x1 x3 x4 u := fun ⟨R, s, h⟩ => ⟨R, fun r0 r1 r2 r3 a => mn_v_6_gather_97b (fun r0 r1 r2 r3 a => a) hQ (s r0 r1 r2 r3 a), h⟩
theorem un_v_6_gather_97  {Q : iST → Prop} {x1 : Int} {x3 : Int} {x4 : Int} {u : iST} : pv_6_gather_97 Q x1 x3 x4 u → pv_6_gather_97b (fun x1 x3 x4 u => pv_6_gather_97 Q x1 x3 x4 u) Q x1 x3 x4 u := fun ⟨R, s, h⟩ => mn_v_6_gather_97b (fun r0 r1 r2 r3 a => ⟨R, s, a⟩) (fun _ h => h) (s _ _ _ _ h)
theorem fo_v_6_gather_97  {Q : iST → Prop} {x1 : Int} {x3 : Int} {x4 : Int} {u : iST} : pv_6_gather_97b (fun x1 x3 x4 u => pv_6_gather_97 Q x1 x3 x4 u) Q x1 x3 x4 u → pv_6_gather_97 Q x1 x3 x4 u := fun h => ⟨fun x1 x3 x4 u => pv_6_gather_97b (fun x1 x3 x4 u => pv_6_gather_97 Q x1 x3 x4 u) Q x1 x3 x4 u, fun r0 r1 r2 r3 a => mn_v_6_gather_97b (fun r0 r1 r2 r3 a => un_v_6_gather_97 a) (fun _ h => h) a, h⟩
theorem wp_v_6_gather_97 {Q1 Q2 : iST → Prop}  {x1 : Int} {x3 : Int} {x4 : Int} {u : iST} (hQ : ∀ r0, Q1 r0 → Q2 r0) : v_6_gather_97 Q1 x1 x3 x4 u → pv_6_gather_97 Q2 x1 x3 x4 u := fun a => a (fun x1 x3 x4 u => pv_6_gather_97 Q2 x1 x3 x4 u) (fun x1 x3 x4 u b => fo_v_6_gather_97 (wp_v_6_gather_97b (fun r0 r1 r2 r3 a => a) hQ b))
def pv_6_gather_29 (Q : iST → Prop) (x1 : Int) (u : iST) : Prop :=
  bdp 10 17 (rd (u.2.1 51 (17 * x1 + 10)) (fun v2 => 
  rd (wadd v2 1) (fun v3 => 
  bdp 10 17 (sw (iA u 51 (17 * x1 + 10) v3) (fun u => 
  bdp 6 17 (rd (u.2.1 51 (17 * x1 + 6)) (fun v4 => 
  pv_7_isPair v4 (fun v5 u => 
  br (v5 = 0) (
    bdp 10 17 (rd (u.2.1 51 (17 * x1 + 10)) (fun v6 => 
    rd (if 6 < v6 then 6 else v6) (fun v7 => 
    ovp (v7 - 1) (
    pv_6_gather_97 Q x1 0 (v7 - 1) u))))) (
    pv_7_right v4 (fun v21 u => 
    bdp 6 17 (sw (iA u 51 (17 * x1 + 6) v21) (fun u => 
    pv_7_left v4 (fun v22 u => 
    bdp 2 17 (rd (u.2.1 51 (17 * x1 + 2)) (fun v23 => 
    pv_6_ask v22 0 v23 (fun u => 
    Q u) u))) u))) u)) u)))))))
theorem cj_v_6_gather_29 {Q1 Q2 Q3 : iST → Prop}  {x1 : Int} {u : iST} (hQ : ∀ r0, Q1 r0 → Q2 r0 → Q3 r0) : v_6_gather_29 Q1 x1 u → pv_6_gather_29 Q2 x1 u → v_6_gather_29 Q3 x1 u := (bd_cj (rd_cj fun _ => (rd_cj fun _ => (bd_cj (sw_cj fun _ => (bd_cj (rd_cj fun _ => (cj_v_7_isPair (fun _ _ => (br_cj (bd_cj (rd_cj fun _ => (rd_cj fun _ => (ov_cj (cj_v_6_gather_97  hQ))))) (cj_v_7_right (fun _ _ => (bd_cj (sw_cj fun _ => (cj_v_7_left (fun _ _ => (bd_cj (rd_cj fun _ => (cj_v_6_ask (fun _ => (hQ _)))))))))))))))))))))
theorem mn_v_6_gather_29 {Q1 Q2 : iST → Prop}  {x1 : Int} {u : iST} (hQ : ∀ r0, Q1 r0 → Q2 r0) : pv_6_gather_29 Q1 x1 u → pv_6_gather_29 Q2 x1 u := (bd_mn (rd_mn fun _ => (rd_mn fun _ => (bd_mn (sw_mn fun _ => (bd_mn (rd_mn fun _ => (mn_v_7_isPair (fun _ _ => (br_mn (bd_mn (rd_mn fun _ => (rd_mn fun _ => (ov_mn (mn_v_6_gather_97  hQ))))) (mn_v_7_right (fun _ _ => (bd_mn (sw_mn fun _ => (mn_v_7_left (fun _ _ => (bd_mn (rd_mn fun _ => (mn_v_6_ask (fun _ => (hQ _)))))))))))))))))))))
theorem wp_v_6_gather_29 {Q1 Q2 : iST → Prop}  {x1 : Int} {u : iST} (hQ : ∀ r0, Q1 r0 → Q2 r0) : v_6_gather_29 Q1 x1 u → pv_6_gather_29 Q2 x1 u := (bd_wp (rd_wp fun _ => (rd_wp fun _ => (bd_wp (sw_wp fun _ => (bd_wp (rd_wp fun _ => (wp_v_7_isPair (fun _ _ => (br_wp (bd_wp (rd_wp fun _ => (rd_wp fun _ => (ov_wp (wp_v_6_gather_97  hQ))))) (wp_v_7_right (fun _ _ => (bd_wp (sw_wp fun _ => (wp_v_7_left (fun _ _ => (bd_wp (rd_wp fun _ => (wp_v_6_ask (fun _ => (hQ _)))))))))))))))))))))
def pv_6_gather (a0 : Int) (Q : iST → Prop) (u : iST) : Prop :=
  bdp 10 17 (rd (u.2.1 51 (17 * a0 + 10)) (fun v1 => 
  br (v1 < 0) (
    pv_6_gather_29 Q a0 u) (
    bdp 10 17 (rd (u.2.1 51 (17 * a0 + 10)) (fun v25 => 
    br (6 ≤ v25) (
      pv_6_gather_29 Q a0 u) (
      bdp 10 17 (rd (u.2.1 51 (17 * a0 + 10)) (fun v26 => 
      ovp (11 + v26) (
      rd (u.1 24) (fun v28 => 
      bdp (11 + v26) 17 (sw (iA u 51 (17 * a0 + (11 + v26)) v28) (fun u => 
      pv_6_gather_29 Q a0 u))))))))))))
theorem cj_v_6_gather {Q1 Q2 Q3 : iST → Prop}  {a0 : Int} {u : iST} (hQ : ∀ r0, Q1 r0 → Q2 r0 → Q3 r0) : v_6_gather a0 Q1 u → pv_6_gather a0 Q2 u → v_6_gather a0 Q3 u := (bd_cj (rd_cj fun _ => (br_cj (cj_v_6_gather_29  hQ) (bd_cj (rd_cj fun _ => (br_cj (cj_v_6_gather_29  hQ) (bd_cj (rd_cj fun _ => (ov_cj (rd_cj fun _ => (bd_cj (sw_cj fun _ => (cj_v_6_gather_29  hQ)))))))))))))
theorem mn_v_6_gather {Q1 Q2 : iST → Prop}  {a0 : Int} {u : iST} (hQ : ∀ r0, Q1 r0 → Q2 r0) : pv_6_gather a0 Q1 u → pv_6_gather a0 Q2 u := (bd_mn (rd_mn fun _ => (br_mn (mn_v_6_gather_29  hQ) (bd_mn (rd_mn fun _ => (br_mn (mn_v_6_gather_29  hQ) (bd_mn (rd_mn fun _ => (ov_mn (rd_mn fun _ => (bd_mn (sw_mn fun _ => (mn_v_6_gather_29  hQ)))))))))))))
theorem wp_v_6_gather {Q1 Q2 : iST → Prop}  {a0 : Int} {u : iST} (hQ : ∀ r0, Q1 r0 → Q2 r0) : v_6_gather a0 Q1 u → pv_6_gather a0 Q2 u := (bd_wp (rd_wp fun _ => (br_wp (wp_v_6_gather_29  hQ) (bd_wp (rd_wp fun _ => (br_wp (wp_v_6_gather_29  hQ) (bd_wp (rd_wp fun _ => (ov_wp (rd_wp fun _ => (bd_wp (sw_wp fun _ => (wp_v_6_gather_29  hQ)))))))))))))
def pv_6_compute_119 (Q : iST → Prop) (x4 : Int) (u : iST) : Prop :=
  br (x4 = (-1)) (
    Q u) (
    pv_7_constantOf x4 (fun v5 u => 
    pv_6_finish v5 (fun u => 
    Q u) u) u)
theorem cj_v_6_compute_119 {Q1 Q2 Q3 : iST → Prop}  {x4 : Int} {u : iST} (hQ : ∀ r0, Q1 r0 → Q2 r0 → Q3 r0) : v_6_compute_119 Q1 x4 u → pv_6_compute_119 Q2 x4 u → v_6_compute_119 Q3 x4 u := (br_cj (hQ _) (cj_v_7_constantOf (fun _ _ => (cj_v_6_finish (fun _ => (hQ _))))))
theorem mn_v_6_compute_119 {Q1 Q2 : iST → Prop}  {x4 : Int} {u : iST} (hQ : ∀ r0, Q1 r0 → Q2 r0) : pv_6_compute_119 Q1 x4 u → pv_6_compute_119 Q2 x4 u := (br_mn (hQ _) (mn_v_7_constantOf (fun _ _ => (mn_v_6_finish (fun _ => (hQ _))))))
theorem wp_v_6_compute_119 {Q1 Q2 : iST → Prop}  {x4 : Int} {u : iST} (hQ : ∀ r0, Q1 r0 → Q2 r0) : v_6_compute_119 Q1 x4 u → pv_6_compute_119 Q2 x4 u := (br_wp (hQ _) (wp_v_7_constantOf (fun _ _ => (wp_v_6_finish (fun _ => (hQ _))))))
def pv_6_compute_38 (Q : iST → Prop) (x2 : Int) (x3 : Int) (y0 : Int) (y1 : Int) (y2 : Int) (u : iST) : Prop :=
  bdp y1 17 (sw (iA u 51 (17 * y0 + y1) y2) (fun u => 
  pv_10_isOfConstants x2 (fun v3 u => 
  br (v3 ≠ 0) (
    br (16 < x3) (
      pv_2_evaluated x2 100 (fun v4 u => 
      pv_6_compute_119 Q v4 u) u) (
      pv_7_item x2 1 (fun v7 u => 
      pv_7_valueOf v7 (fun v8 u => 
      pv_7_item x2 2 (fun v9 u => 
      pv_7_valueOf v9 (fun v10 u => 
      pv_2_baseValue x3 v8 v10 0 (fun v11 u => 
      pv_6_compute_119 Q v11 u) u) u) u) u) u)) (
    Q u)) u))
theorem cj_v_6_compute_38 {Q1 Q2 Q3 : iST → Prop}  {x2 : Int} {x3 : Int} {y0 : Int} {y1 : Int} {y2 : Int} {u : iST} (hQ : ∀ r0, Q1 r0 → Q2 r0 → Q3 r0) : v_6_compute_38 Q1 x2 x3 y0 y1 y2 u → pv_6_compute_38 Q2 x2 x3 y0 y1 y2 u → v_6_compute_38 Q3 x2 x3 y0 y1 y2 u := (bd_cj (sw_cj fun _ => (cj_v_10_isOfConstants (fun _ _ => (br_cj (br_cj (cj_v_2_evaluated (fun _ _ => (cj_v_6_compute_119  hQ))) (cj_v_7_item (fun _ _ => (cj_v_7_valueOf (fun _ _ => (cj_v_7_item (fun _ _ => (cj_v_7_valueOf (fun _ _ => (cj_v_2_baseValue (fun _ _ => (cj_v_6_compute_119  hQ)))))))))))) (hQ _))))))
theorem mn_v_6_compute_38 {Q1 Q2 : iST → Prop}  {x2 : Int} {x3 : Int} {y0 : Int} {y1 : Int} {y2 : Int} {u : iST} (hQ : ∀ r0, Q1 r0 → Q2 r0) : pv_6_compute_38 Q1 x2 x3 y0 y1 y2 u → pv_6_compute_38 Q2 x2 x3 y0 y1 y2 u := (bd_mn (sw_mn fun _ => (mn_v_10_isOfConstants (fun _ _ => (br_mn (br_mn (mn_v_2_evaluated (fun _ _ => (mn_v_6_compute_119  hQ))) (mn_v_7_item (fun _ _ => (mn_v_7_valueOf (fun _ _ => (mn_v_7_item (fun _ _ => (mn_v_7_valueOf (fun _ _ => (mn_v_2_baseValue (fun _ _ => (mn_v_6_compute_119  hQ)))))))))))) (hQ _))))))
theorem wp_v_6_compute_38 {Q1 Q2 : iST → Prop}  {x2 : Int} {x3 : Int} {y0 : Int} {y1 : Int} {y2 : Int} {u : iST} (hQ : ∀ r0, Q1 r0 → Q2 r0) : v_6_compute_38 Q1 x2 x3 y0 y1 y2 u → pv_6_compute_38 Q2 x2 x3 y0 y1 y2 u := (bd_wp (sw_wp fun _ => (wp_v_10_isOfConstants (fun _ _ => (br_wp (br_wp (wp_v_2_evaluated (fun _ _ => (wp_v_6_compute_119  hQ))) (wp_v_7_item (fun _ _ => (wp_v_7_valueOf (fun _ _ => (wp_v_7_item (fun _ _ => (wp_v_7_valueOf (fun _ _ => (wp_v_2_baseValue (fun _ _ => (wp_v_6_compute_119  hQ)))))))))))) (hQ _))))))
def pv_6_compute (a0 : Int) (Q : iST → Prop) (u : iST) : Prop :=
  bdp 5 17 (rd (u.2.1 51 (17 * a0 + 5)) (fun v1 => 
  pv_7_left v1 (fun v2 u => 
  br (v2 ≠ 4) (
    br (v2 ≠ 9) (
      pv_6_compute_38 Q v1 v2 a0 3 10 u) (
      pv_6_compute_38 Q v1 v2 a0 3 9 u)) (
    pv_6_compute_38 Q v1 v2 a0 3 8 u)) u))
theorem cj_v_6_compute {Q1 Q2 Q3 : iST → Prop}  {a0 : Int} {u : iST} (hQ : ∀ r0, Q1 r0 → Q2 r0 → Q3 r0) : v_6_compute a0 Q1 u → pv_6_compute a0 Q2 u → v_6_compute a0 Q3 u := (bd_cj (rd_cj fun _ => (cj_v_7_left (fun _ _ => (br_cj (br_cj (cj_v_6_compute_38  hQ) (cj_v_6_compute_38  hQ)) (cj_v_6_compute_38  hQ))))))
theorem mn_v_6_compute {Q1 Q2 : iST → Prop}  {a0 : Int} {u : iST} (hQ : ∀ r0, Q1 r0 → Q2 r0) : pv_6_compute a0 Q1 u → pv_6_compute a0 Q2 u := (bd_mn (rd_mn fun _ => (mn_v_7_left (fun _ _ => (br_mn (br_mn (mn_v_6_compute_38  hQ) (mn_v_6_compute_38  hQ)) (mn_v_6_compute_38  hQ))))))
theorem wp_v_6_compute {Q1 Q2 : iST → Prop}  {a0 : Int} {u : iST} (hQ : ∀ r0, Q1 r0 → Q2 r0) : v_6_compute a0 Q1 u → pv_6_compute a0 Q2 u := (bd_wp (rd_wp fun _ => (wp_v_7_left (fun _ _ => (br_wp (br_wp (wp_v_6_compute_38  hQ) (wp_v_6_compute_38  hQ)) (wp_v_6_compute_38  hQ))))))
def pv_6_reduceEqual_185 (Q : iST → Prop) (x1 : Int) (u : iST) : Prop :=
  bdp 3 17 (sw (iA u 51 (17 * x1 + 3) 11) (fun u => 
  Q u))
theorem cj_v_6_reduceEqual_185 {Q1 Q2 Q3 : iST → Prop}  {x1 : Int} {u : iST} (hQ : ∀ r0, Q1 r0 → Q2 r0 → Q3 r0) : v_6_reduceEqual_185 Q1 x1 u → pv_6_reduceEqual_185 Q2 x1 u → v_6_reduceEqual_185 Q3 x1 u := (bd_cj (sw_cj fun _ => (hQ _)))
theorem mn_v_6_reduceEqual_185 {Q1 Q2 : iST → Prop}  {x1 : Int} {u : iST} (hQ : ∀ r0, Q1 r0 → Q2 r0) : pv_6_reduceEqual_185 Q1 x1 u → pv_6_reduceEqual_185 Q2 x1 u := (bd_mn (sw_mn fun _ => (hQ _)))
theorem wp_v_6_reduceEqual_185 {Q1 Q2 : iST → Prop}  {x1 : Int} {u : iST} (hQ : ∀ r0, Q1 r0 → Q2 r0) : v_6_reduceEqual_185 Q1 x1 u → pv_6_reduceEqual_185 Q2 x1 u := (bd_wp (sw_wp fun _ => (hQ _)))
def pv_6_reduceEqual_146 (Q : iST → Prop) (x1 : Int) (x6 : Int) (u : iST) : Prop :=
  pv_7_isConstant x6 (fun v3 u => 
  br (v3 = 0) (
    pv_6_reduceEqual_185 Q x1 u) (
    pv_7_valueOf x6 (fun v4 u => 
    pv_7_isPair v4 (fun v5 u => 
    br (v5 ≠ 0) (
      pv_6_reduceEqual_185 Q x1 u) (
      pv_6_finish 0 (fun u => 
      Q u) u)) u) u)) u
theorem cj_v_6_reduceEqual_146 {Q1 Q2 Q3 : iST → Prop}  {x1 : Int} {x6 : Int} {u : iST} (hQ : ∀ r0, Q1 r0 → Q2 r0 → Q3 r0) : v_6_reduceEqual_146 Q1 x1 x6 u → pv_6_reduceEqual_146 Q2 x1 x6 u → v_6_reduceEqual_146 Q3 x1 x6 u := (cj_v_7_isConstant (fun _ _ => (br_cj (cj_v_6_reduceEqual_185  hQ) (cj_v_7_valueOf (fun _ _ => (cj_v_7_isPair (fun _ _ => (br_cj (cj_v_6_reduceEqual_185  hQ) (cj_v_6_finish (fun _ => (hQ _)))))))))))
theorem mn_v_6_reduceEqual_146 {Q1 Q2 : iST → Prop}  {x1 : Int} {x6 : Int} {u : iST} (hQ : ∀ r0, Q1 r0 → Q2 r0) : pv_6_reduceEqual_146 Q1 x1 x6 u → pv_6_reduceEqual_146 Q2 x1 x6 u := (mn_v_7_isConstant (fun _ _ => (br_mn (mn_v_6_reduceEqual_185  hQ) (mn_v_7_valueOf (fun _ _ => (mn_v_7_isPair (fun _ _ => (br_mn (mn_v_6_reduceEqual_185  hQ) (mn_v_6_finish (fun _ => (hQ _)))))))))))
theorem wp_v_6_reduceEqual_146 {Q1 Q2 : iST → Prop}  {x1 : Int} {x6 : Int} {u : iST} (hQ : ∀ r0, Q1 r0 → Q2 r0) : v_6_reduceEqual_146 Q1 x1 x6 u → pv_6_reduceEqual_146 Q2 x1 x6 u := (wp_v_7_isConstant (fun _ _ => (br_wp (wp_v_6_reduceEqual_185  hQ) (wp_v_7_valueOf (fun _ _ => (wp_v_7_isPair (fun _ _ => (br_wp (wp_v_6_reduceEqual_185  hQ) (wp_v_6_finish (fun _ => (hQ _)))))))))))
def pv_6_reduceEqual_136 (Q : iST → Prop) (x1 : Int) (x4 : Int) (x5 : Int) (x6 : Int) (u : iST) : Prop :=
  br (x4 ≠ 0) (
    pv_6_reduceEqual_146 Q x1 x6 u) (
    br (x5 = 0) (
      pv_6_reduceEqual_185 Q x1 u) (
      pv_6_reduceEqual_146 Q x1 x6 u))
theorem cj_v_6_reduceEqual_136 {Q1 Q2 Q3 : iST → Prop}  {x1 : Int} {x4 : Int} {x5 : Int} {x6 : Int} {u : iST} (hQ : ∀ r0, Q1 r0 → Q2 r0 → Q3 r0) : v_6_reduceEqual_136 Q1 x1 x4 x5 x6 u → pv_6_reduceEqual_136 Q2 x1 x4 x5 x6 u → v_6_reduceEqual_136 Q3 x1 x4 x5 x6 u := (br_cj (cj_v_6_reduceEqual_146  hQ) (br_cj (cj_v_6_reduceEqual_185  hQ) (cj_v_6_reduceEqual_146  hQ)))
theorem mn_v_6_reduceEqual_136 {Q1 Q2 : iST → Prop}  {x1 : Int} {x4 : Int} {x5 : Int} {x6 : Int} {u : iST} (hQ : ∀ r0, Q1 r0 → Q2 r0) : pv_6_reduceEqual_136 Q1 x1 x4 x5 x6 u → pv_6_reduceEqual_136 Q2 x1 x4 x5 x6 u := (br_mn (mn_v_6_reduceEqual_146  hQ) (br_mn (mn_v_6_reduceEqual_185  hQ) (mn_v_6_reduceEqual_146  hQ)))
theorem wp_v_6_reduceEqual_136 {Q1 Q2 : iST → Prop}  {x1 : Int} {x4 : Int} {x5 : Int} {x6 : Int} {u : iST} (hQ : ∀ r0, Q1 r0 → Q2 r0) : v_6_reduceEqual_136 Q1 x1 x4 x5 x6 u → pv_6_reduceEqual_136 Q2 x1 x4 x5 x6 u := (br_wp (wp_v_6_reduceEqual_146  hQ) (br_wp (wp_v_6_reduceEqual_185  hQ) (wp_v_6_reduceEqual_146  hQ)))
def pv_6_reduceEqual_32 (Q : iST → Prop) (x1 : Int) (x2 : Int) (x3 : Int) (x4 : Int) (x5 : Int) (y0 : Int) (u : iST) : Prop :=
  br (x2 ≠ x3) (
    br (x4 = 0) (
      pv_6_reduceEqual_136 Q x1 x4 x5 y0 u) (
      br (x5 = 0) (
        pv_6_reduceEqual_136 Q x1 x4 x5 y0 u) (
        pv_7_item x2 1 (fun v7 u => 
        pv_7_item x3 1 (fun v8 u => 
        pv_10_call 4 v7 v8 (-1) (fun v9 u => 
        pv_7_item x2 2 (fun v10 u => 
        pv_7_item x3 2 (fun v11 u => 
        pv_10_call 4 v10 v11 (-1) (fun v12 u => 
        pv_10_call 3 v9 v12 0 (fun v13 u => 
        pv_6_askInstead x1 v13 (fun u => 
        Q u) u) u) u) u) u) u) u) u))) (
    pv_6_finish 1 (fun u => 
    Q u) u)
theorem cj_v_6_reduceEqual_32 {Q1 Q2 Q3 : iST → Prop}  {x1 : Int} {x2 : Int} {x3 : Int} {x4 : Int} {x5 : Int} {y0 : Int} {u : iST} (hQ : ∀ r0, Q1 r0 → Q2 r0 → Q3 r0) : v_6_reduceEqual_32 Q1 x1 x2 x3 x4 x5 y0 u → pv_6_reduceEqual_32 Q2 x1 x2 x3 x4 x5 y0 u → v_6_reduceEqual_32 Q3 x1 x2 x3 x4 x5 y0 u := (br_cj (br_cj (cj_v_6_reduceEqual_136  hQ) (br_cj (cj_v_6_reduceEqual_136  hQ) (cj_v_7_item (fun _ _ => (cj_v_7_item (fun _ _ => (cj_v_10_call (fun _ _ => (cj_v_7_item (fun _ _ => (cj_v_7_item (fun _ _ => (cj_v_10_call (fun _ _ => (cj_v_10_call (fun _ _ => (cj_v_6_askInstead (fun _ => (hQ _))))))))))))))))))) (cj_v_6_finish (fun _ => (hQ _))))
theorem mn_v_6_reduceEqual_32 {Q1 Q2 : iST → Prop}  {x1 : Int} {x2 : Int} {x3 : Int} {x4 : Int} {x5 : Int} {y0 : Int} {u : iST} (hQ : ∀ r0, Q1 r0 → Q2 r0) : pv_6_reduceEqual_32 Q1 x1 x2 x3 x4 x5 y0 u → pv_6_reduceEqual_32 Q2 x1 x2 x3 x4 x5 y0 u := (br_mn (br_mn (mn_v_6_reduceEqual_136  hQ) (br_mn (mn_v_6_reduceEqual_136  hQ) (mn_v_7_item (fun _ _ => (mn_v_7_item (fun _ _ => (mn_v_10_call (fun _ _ => (mn_v_7_item (fun _ _ => (mn_v_7_item (fun _ _ => (mn_v_10_call (fun _ _ => (mn_v_10_call (fun _ _ => (mn_v_6_askInstead (fun _ => (hQ _))))))))))))))))))) (mn_v_6_finish (fun _ => (hQ _))))
theorem wp_v_6_reduceEqual_32 {Q1 Q2 : iST → Prop}  {x1 : Int} {x2 : Int} {x3 : Int} {x4 : Int} {x5 : Int} {y0 : Int} {u : iST} (hQ : ∀ r0, Q1 r0 → Q2 r0) : v_6_reduceEqual_32 Q1 x1 x2 x3 x4 x5 y0 u → pv_6_reduceEqual_32 Q2 x1 x2 x3 x4 x5 y0 u := (br_wp (br_wp (wp_v_6_reduceEqual_136  hQ) (br_wp (wp_v_6_reduceEqual_136  hQ) (wp_v_7_item (fun _ _ => (wp_v_7_item (fun _ _ => (wp_v_10_call (fun _ _ => (wp_v_7_item (fun _ _ => (wp_v_7_item (fun _ _ => (wp_v_10_call (fun _ _ => (wp_v_10_call (fun _ _ => (wp_v_6_askInstead (fun _ => (hQ _))))))))))))))))))) (wp_v_6_finish (fun _ => (hQ _))))
def pv_6_reduceEqual (a0 : Int) (a1 : Int) (a2 : Int) (Q : iST → Prop) (u : iST) : Prop :=
  pv_7_isCallOf a1 5 (fun v1 u => 
  pv_7_isCallOf a2 5 (fun v2 u => 
  br (v1 = 0) (
    pv_6_reduceEqual_32 Q a0 a1 a2 v1 v2 a1 u) (
    pv_6_reduceEqual_32 Q a0 a1 a2 v1 v2 a2 u)) u) u
theorem cj_v_6_reduceEqual {Q1 Q2 Q3 : iST → Prop}  {a0 : Int} {a1 : Int} {a2 : Int} {u : iST} (hQ : ∀ r0, Q1 r0 → Q2 r0 → Q3 r0) : v_6_reduceEqual a0 a1 a2 Q1 u → pv_6_reduceEqual a0 a1 a2 Q2 u → v_6_reduceEqual a0 a1 a2 Q3 u := (cj_v_7_isCallOf (fun _ _ => (cj_v_7_isCallOf (fun _ _ => (br_cj (cj_v_6_reduceEqual_32  hQ) (cj_v_6_reduceEqual_32  hQ))))))
theorem mn_v_6_reduceEqual {Q1 Q2 : iST → Prop}  {a0 : Int} {a1 : Int} {a2 : Int} {u : iST} (hQ : ∀ r0, Q1 r0 → Q2 r0) : pv_6_reduceEqual a0 a1 a2 Q1 u → pv_6_reduceEqual a0 a1 a2 Q2 u := (mn_v_7_isCallOf (fun _ _ => (mn_v_7_isCallOf (fun _ _ => (br_mn (mn_v_6_reduceEqual_32  hQ) (mn_v_6_reduceEqual_32  hQ))))))
theorem wp_v_6_reduceEqual {Q1 Q2 : iST → Prop}  {a0 : Int} {a1 : Int} {a2 : Int} {u : iST} (hQ : ∀ r0, Q1 r0 → Q2 r0) : v_6_reduceEqual a0 a1 a2 Q1 u → pv_6_reduceEqual a0 a1 a2 Q2 u := (wp_v_7_isCallOf (fun _ _ => (wp_v_7_isCallOf (fun _ _ => (br_wp (wp_v_6_reduceEqual_32  hQ) (wp_v_6_reduceEqual_32  hQ))))))
def pv_6_reduceLess_119 (Q : iST → Prop) (u : iST) : Prop :=
  pv_6_finish 0 (fun u => 
  Q u) u
theorem cj_v_6_reduceLess_119 {Q1 Q2 Q3 : iST → Prop}  {u : iST} (hQ : ∀ r0, Q1 r0 → Q2 r0 → Q3 r0) : v_6_reduceLess_119 Q1 u → pv_6_reduceLess_119 Q2 u → v_6_reduceLess_119 Q3 u := (cj_v_6_finish (fun _ => (hQ _)))
theorem mn_v_6_reduceLess_119 {Q1 Q2 : iST → Prop}  {u : iST} (hQ : ∀ r0, Q1 r0 → Q2 r0) : pv_6_reduceLess_119 Q1 u → pv_6_reduceLess_119 Q2 u := (mn_v_6_finish (fun _ => (hQ _)))
theorem wp_v_6_reduceLess_119 {Q1 Q2 : iST → Prop}  {u : iST} (hQ : ∀ r0, Q1 r0 → Q2 r0) : v_6_reduceLess_119 Q1 u → pv_6_reduceLess_119 Q2 u := (wp_v_6_finish (fun _ => (hQ _)))
def pv_6_reduceLess_240 (Q : iST → Prop) (x1 : Int) (u : iST) : Prop :=
  bdp 3 17 (sw (iA u 51 (17 * x1 + 3) 11) (fun u => 
  Q u))
theorem cj_v_6_reduceLess_240 {Q1 Q2 Q3 : iST → Prop}  {x1 : Int} {u : iST} (hQ : ∀ r0, Q1 r0 → Q2 r0 → Q3 r0) : v_6_reduceLess_240 Q1 x1 u → pv_6_reduceLess_240 Q2 x1 u → v_6_reduceLess_240 Q3 x1 u := (bd_cj (sw_cj fun _ => (hQ _)))
theorem mn_v_6_reduceLess_240 {Q1 Q2 : iST → Prop}  {x1 : Int} {u : iST} (hQ : ∀ r0, Q1 r0 → Q2 r0) : pv_6_reduceLess_240 Q1 x1 u → pv_6_reduceLess_240 Q2 x1 u := (bd_mn (sw_mn fun _ => (hQ _)))
theorem wp_v_6_reduceLess_240 {Q1 Q2 : iST → Prop}  {x1 : Int} {u : iST} (hQ : ∀ r0, Q1 r0 → Q2 r0) : v_6_reduceLess_240 Q1 x1 u → pv_6_reduceLess_240 Q2 x1 u := (bd_wp (sw_wp fun _ => (hQ _)))
def pv_6_reduceLess_173 (Q : iST → Prop) (x1 : Int) (x2 : Int) (x3 : Int) (x4 : Int) (u : iST) : Prop :=
  pv_7_isCallOf x2 8 (fun v7 u => 
  br (v7 = 0) (
    pv_6_reduceLess_240 Q x1 u) (
    br (x4 ≠ x3) (
      pv_6_reduceLess_240 Q x1 u) (
      pv_7_item x2 2 (fun v8 u => 
      pv_7_numberOf v8 (fun v9 u => 
      br (v9 ≤ 0) (
        pv_6_reduceLess_240 Q x1 u) (
        pv_7_made 0 (fun v10 u => 
        pv_10_call 9 v10 x3 (-1) (fun v11 u => 
        pv_6_askInstead x1 v11 (fun u => 
        Q u) u) u) u)) u) u))) u
theorem cj_v_6_reduceLess_173 {Q1 Q2 Q3 : iST → Prop}  {x1 : Int} {x2 : Int} {x3 : Int} {x4 : Int} {u : iST} (hQ : ∀ r0, Q1 r0 → Q2 r0 → Q3 r0) : v_6_reduceLess_173 Q1 x1 x2 x3 x4 u → pv_6_reduceLess_173 Q2 x1 x2 x3 x4 u → v_6_reduceLess_173 Q3 x1 x2 x3 x4 u := (cj_v_7_isCallOf (fun _ _ => (br_cj (cj_v_6_reduceLess_240  hQ) (br_cj (cj_v_6_reduceLess_240  hQ) (cj_v_7_item (fun _ _ => (cj_v_7_numberOf (fun _ _ => (br_cj (cj_v_6_reduceLess_240  hQ) (cj_v_7_made (fun _ _ => (cj_v_10_call (fun _ _ => (cj_v_6_askInstead (fun _ => (hQ _))))))))))))))))
theorem mn_v_6_reduceLess_173 {Q1 Q2 : iST → Prop}  {x1 : Int} {x2 : Int} {x3 : Int} {x4 : Int} {u : iST} (hQ : ∀ r0, Q1 r0 → Q2 r0) : pv_6_reduceLess_173 Q1 x1 x2 x3 x4 u → pv_6_reduceLess_173 Q2 x1 x2 x3 x4 u := (mn_v_7_isCallOf (fun _ _ => (br_mn (mn_v_6_reduceLess_240  hQ) (br_mn (mn_v_6_reduceLess_240  hQ) (mn_v_7_item (fun _ _ => (mn_v_7_numberOf (fun _ _ => (br_mn (mn_v_6_reduceLess_240  hQ) (mn_v_7_made (fun _ _ => (mn_v_10_call (fun _ _ => (mn_v_6_askInstead (fun _ => (hQ _))))))))))))))))
theorem wp_v_6_reduceLess_173 {Q1 Q2 : iST → Prop}  {x1 : Int} {x2 : Int} {x3 : Int} {x4 : Int} {u : iST} (hQ : ∀ r0, Q1 r0 → Q2 r0) : v_6_reduceLess_173 Q1 x1 x2 x3 x4 u → pv_6_reduceLess_173 Q2 x1 x2 x3 x4 u := (wp_v_7_isCallOf (fun _ _ => (br_wp (wp_v_6_reduceLess_240  hQ) (br_wp (wp_v_6_reduceLess_240  hQ) (wp_v_7_item (fun _ _ => (wp_v_7_numberOf (fun _ _ => (br_wp (wp_v_6_reduceLess_240  hQ) (wp_v_7_made (fun _ _ => (wp_v_10_call (fun _ _ => (wp_v_6_askInstead (fun _ => (hQ _))))))))))))))))
def pv_6_reduceLess_127 (Q : iST → Prop) (x1 : Int) (x2 : Int) (x3 : Int) (x4 : Int) (x5 : Int) (x6 : Int) (x7 : Int) (u : iST) : Prop :=
  br (x7 = 0) (
    pv_6_reduceLess_173 Q x1 x2 x3 x4 u) (
    br (x6 = 0) (
      pv_6_reduceLess_173 Q x1 x2 x3 x4 u) (
      pv_7_item x4 1 (fun v13 u => 
      br (v13 ≠ x5) (
        pv_6_reduceLess_173 Q x1 x2 x3 x4 u) (
        pv_10_call 10 x5 (-1) (-1) (fun v14 u => 
        pv_6_askInstead x1 v14 (fun u => 
        Q u) u) u)) u))
theorem cj_v_6_reduceLess_127 {Q1 Q2 Q3 : iST → Prop}  {x1 : Int} {x2 : Int} {x3 : Int} {x4 : Int} {x5 : Int} {x6 : Int} {x7 : Int} {u : iST} (hQ : ∀ r0, Q1 r0 → Q2 r0 → Q3 r0) : v_6_reduceLess_127 Q1 x1 x2 x3 x4 x5 x6 x7 u → pv_6_reduceLess_127 Q2 x1 x2 x3 x4 x5 x6 x7 u → v_6_reduceLess_127 Q3 x1 x2 x3 x4 x5 x6 x7 u := (br_cj (cj_v_6_reduceLess_173  hQ) (br_cj (cj_v_6_reduceLess_173  hQ) (cj_v_7_item (fun _ _ => (br_cj (cj_v_6_reduceLess_173  hQ) (cj_v_10_call (fun _ _ => (cj_v_6_askInstead (fun _ => (hQ _))))))))))
theorem mn_v_6_reduceLess_127 {Q1 Q2 : iST → Prop}  {x1 : Int} {x2 : Int} {x3 : Int} {x4 : Int} {x5 : Int} {x6 : Int} {x7 : Int} {u : iST} (hQ : ∀ r0, Q1 r0 → Q2 r0) : pv_6_reduceLess_127 Q1 x1 x2 x3 x4 x5 x6 x7 u → pv_6_reduceLess_127 Q2 x1 x2 x3 x4 x5 x6 x7 u := (br_mn (mn_v_6_reduceLess_173  hQ) (br_mn (mn_v_6_reduceLess_173  hQ) (mn_v_7_item (fun _ _ => (br_mn (mn_v_6_reduceLess_173  hQ) (mn_v_10_call (fun _ _ => (mn_v_6_askInstead (fun _ => (hQ _))))))))))
theorem wp_v_6_reduceLess_127 {Q1 Q2 : iST → Prop}  {x1 : Int} {x2 : Int} {x3 : Int} {x4 : Int} {x5 : Int} {x6 : Int} {x7 : Int} {u : iST} (hQ : ∀ r0, Q1 r0 → Q2 r0) : v_6_reduceLess_127 Q1 x1 x2 x3 x4 x5 x6 x7 u → pv_6_reduceLess_127 Q2 x1 x2 x3 x4 x5 x6 x7 u := (br_wp (wp_v_6_reduceLess_173  hQ) (br_wp (wp_v_6_reduceLess_173  hQ) (wp_v_7_item (fun _ _ => (br_wp (wp_v_6_reduceLess_173  hQ) (wp_v_10_call (fun _ _ => (wp_v_6_askInstead (fun _ => (hQ _))))))))))
def pv_6_reduceLess_88 (Q : iST → Prop) (x1 : Int) (x2 : Int) (x3 : Int) (x4 : Int) (x5 : Int) (x6 : Int) (y0 : Int) (u : iST) : Prop :=
  br (x2 = x3) (
    pv_6_reduceLess_119 Q u) (
    pv_7_isNatural x3 (fun v6 u => 
    br (v6 = 0) (
      pv_6_reduceLess_127 Q x1 x2 x3 x4 x5 x6 y0 u) (
      pv_7_numberOf x3 (fun v16 u => 
      br (v16 ≠ 0) (
        pv_6_reduceLess_127 Q x1 x2 x3 x4 x5 x6 y0 u) (
        pv_6_reduceLess_119 Q u)) u)) u)
theorem cj_v_6_reduceLess_88 {Q1 Q2 Q3 : iST → Prop}  {x1 : Int} {x2 : Int} {x3 : Int} {x4 : Int} {x5 : Int} {x6 : Int} {y0 : Int} {u : iST} (hQ : ∀ r0, Q1 r0 → Q2 r0 → Q3 r0) : v_6_reduceLess_88 Q1 x1 x2 x3 x4 x5 x6 y0 u → pv_6_reduceLess_88 Q2 x1 x2 x3 x4 x5 x6 y0 u → v_6_reduceLess_88 Q3 x1 x2 x3 x4 x5 x6 y0 u := (br_cj (cj_v_6_reduceLess_119  hQ) (cj_v_7_isNatural (fun _ _ => (br_cj (cj_v_6_reduceLess_127  hQ) (cj_v_7_numberOf (fun _ _ => (br_cj (cj_v_6_reduceLess_127  hQ) (cj_v_6_reduceLess_119  hQ))))))))
theorem mn_v_6_reduceLess_88 {Q1 Q2 : iST → Prop}  {x1 : Int} {x2 : Int} {x3 : Int} {x4 : Int} {x5 : Int} {x6 : Int} {y0 : Int} {u : iST} (hQ : ∀ r0, Q1 r0 → Q2 r0) : pv_6_reduceLess_88 Q1 x1 x2 x3 x4 x5 x6 y0 u → pv_6_reduceLess_88 Q2 x1 x2 x3 x4 x5 x6 y0 u := (br_mn (mn_v_6_reduceLess_119  hQ) (mn_v_7_isNatural (fun _ _ => (br_mn (mn_v_6_reduceLess_127  hQ) (mn_v_7_numberOf (fun _ _ => (br_mn (mn_v_6_reduceLess_127  hQ) (mn_v_6_reduceLess_119  hQ))))))))
theorem wp_v_6_reduceLess_88 {Q1 Q2 : iST → Prop}  {x1 : Int} {x2 : Int} {x3 : Int} {x4 : Int} {x5 : Int} {x6 : Int} {y0 : Int} {u : iST} (hQ : ∀ r0, Q1 r0 → Q2 r0) : v_6_reduceLess_88 Q1 x1 x2 x3 x4 x5 x6 y0 u → pv_6_reduceLess_88 Q2 x1 x2 x3 x4 x5 x6 y0 u := (br_wp (wp_v_6_reduceLess_119  hQ) (wp_v_7_isNatural (fun _ _ => (br_wp (wp_v_6_reduceLess_127  hQ) (wp_v_7_numberOf (fun _ _ => (br_wp (wp_v_6_reduceLess_127  hQ) (wp_v_6_reduceLess_119  hQ))))))))
def pv_6_reduceLess_87 (Q : iST → Prop) (x1 : Int) (x2 : Int) (x3 : Int) (x4 : Int) (x5 : Int) (x6 : Int) (u : iST) : Prop :=
  pv_6_reduceLess_88 Q x1 x2 x3 x4 x5 x6 0 u
theorem cj_v_6_reduceLess_87 {Q1 Q2 Q3 : iST → Prop}  {x1 : Int} {x2 : Int} {x3 : Int} {x4 : Int} {x5 : Int} {x6 : Int} {u : iST} (hQ : ∀ r0, Q1 r0 → Q2 r0 → Q3 r0) : v_6_reduceLess_87 Q1 x1 x2 x3 x4 x5 x6 u → pv_6_reduceLess_87 Q2 x1 x2 x3 x4 x5 x6 u → v_6_reduceLess_87 Q3 x1 x2 x3 x4 x5 x6 u := (cj_v_6_reduceLess_88  hQ)
theorem mn_v_6_reduceLess_87 {Q1 Q2 : iST → Prop}  {x1 : Int} {x2 : Int} {x3 : Int} {x4 : Int} {x5 : Int} {x6 : Int} {u : iST} (hQ : ∀ r0, Q1 r0 → Q2 r0) : pv_6_reduceLess_87 Q1 x1 x2 x3 x4 x5 x6 u → pv_6_reduceLess_87 Q2 x1 x2 x3 x4 x5 x6 u := (mn_v_6_reduceLess_88  hQ)
theorem wp_v_6_reduceLess_87 {Q1 Q2 : iST → Prop}  {x1 : Int} {x2 : Int} {x3 : Int} {x4 : Int} {x5 : Int} {x6 : Int} {u : iST} (hQ : ∀ r0, Q1 r0 → Q2 r0) : v_6_reduceLess_87 Q1 x1 x2 x3 x4 x5 x6 u → pv_6_reduceLess_87 Q2 x1 x2 x3 x4 x5 x6 u := (wp_v_6_reduceLess_88  hQ)
def pv_6_reduceLess_55 (Q : iST → Prop) (x1 : Int) (x2 : Int) (x3 : Int) (x4 : Int) (x5 : Int) (y0 : Int) (u : iST) : Prop :=
  pv_7_isCallOf x2 15 (fun v4 u => 
  br (v4 = 0) (
    pv_6_reduceLess_87 Q x1 x2 x3 x4 x5 y0 u) (
    pv_7_isCallOf x3 15 (fun v17 u => 
    br (v17 = 0) (
      pv_6_reduceLess_87 Q x1 x2 x3 x4 x5 y0 u) (
      pv_6_reduceLess_88 Q x1 x2 x3 x4 x5 y0 1 u)) u)) u
theorem cj_v_6_reduceLess_55 {Q1 Q2 Q3 : iST → Prop}  {x1 : Int} {x2 : Int} {x3 : Int} {x4 : Int} {x5 : Int} {y0 : Int} {u : iST} (hQ : ∀ r0, Q1 r0 → Q2 r0 → Q3 r0) : v_6_reduceLess_55 Q1 x1 x2 x3 x4 x5 y0 u → pv_6_reduceLess_55 Q2 x1 x2 x3 x4 x5 y0 u → v_6_reduceLess_55 Q3 x1 x2 x3 x4 x5 y0 u := (cj_v_7_isCallOf (fun _ _ => (br_cj (cj_v_6_reduceLess_87  hQ) (cj_v_7_isCallOf (fun _ _ => (br_cj (cj_v_6_reduceLess_87  hQ) (cj_v_6_reduceLess_88  hQ)))))))
theorem mn_v_6_reduceLess_55 {Q1 Q2 : iST → Prop}  {x1 : Int} {x2 : Int} {x3 : Int} {x4 : Int} {x5 : Int} {y0 : Int} {u : iST} (hQ : ∀ r0, Q1 r0 → Q2 r0) : pv_6_reduceLess_55 Q1 x1 x2 x3 x4 x5 y0 u → pv_6_reduceLess_55 Q2 x1 x2 x3 x4 x5 y0 u := (mn_v_7_isCallOf (fun _ _ => (br_mn (mn_v_6_reduceLess_87  hQ) (mn_v_7_isCallOf (fun _ _ => (br_mn (mn_v_6_reduceLess_87  hQ) (mn_v_6_reduceLess_88  hQ)))))))
theorem wp_v_6_reduceLess_55 {Q1 Q2 : iST → Prop}  {x1 : Int} {x2 : Int} {x3 : Int} {x4 : Int} {x5 : Int} {y0 : Int} {u : iST} (hQ : ∀ r0, Q1 r0 → Q2 r0) : v_6_reduceLess_55 Q1 x1 x2 x3 x4 x5 y0 u → pv_6_reduceLess_55 Q2 x1 x2 x3 x4 x5 y0 u := (wp_v_7_isCallOf (fun _ _ => (br_wp (wp_v_6_reduceLess_87  hQ) (wp_v_7_isCallOf (fun _ _ => (br_wp (wp_v_6_reduceLess_87  hQ) (wp_v_6_reduceLess_88  hQ)))))))
def pv_6_reduceLess_50 (Q : iST → Prop) (x1 : Int) (x2 : Int) (x3 : Int) (x4 : Int) (x5 : Int) (u : iST) : Prop :=
  pv_6_reduceLess_55 Q x1 x2 x3 x4 x5 1 u
theorem cj_v_6_reduceLess_50 {Q1 Q2 Q3 : iST → Prop}  {x1 : Int} {x2 : Int} {x3 : Int} {x4 : Int} {x5 : Int} {u : iST} (hQ : ∀ r0, Q1 r0 → Q2 r0 → Q3 r0) : v_6_reduceLess_50 Q1 x1 x2 x3 x4 x5 u → pv_6_reduceLess_50 Q2 x1 x2 x3 x4 x5 u → v_6_reduceLess_50 Q3 x1 x2 x3 x4 x5 u := (cj_v_6_reduceLess_55  hQ)
theorem mn_v_6_reduceLess_50 {Q1 Q2 : iST → Prop}  {x1 : Int} {x2 : Int} {x3 : Int} {x4 : Int} {x5 : Int} {u : iST} (hQ : ∀ r0, Q1 r0 → Q2 r0) : pv_6_reduceLess_50 Q1 x1 x2 x3 x4 x5 u → pv_6_reduceLess_50 Q2 x1 x2 x3 x4 x5 u := (mn_v_6_reduceLess_55  hQ)
theorem wp_v_6_reduceLess_50 {Q1 Q2 : iST → Prop}  {x1 : Int} {x2 : Int} {x3 : Int} {x4 : Int} {x5 : Int} {u : iST} (hQ : ∀ r0, Q1 r0 → Q2 r0) : v_6_reduceLess_50 Q1 x1 x2 x3 x4 x5 u → pv_6_reduceLess_50 Q2 x1 x2 x3 x4 x5 u := (wp_v_6_reduceLess_55  hQ)
def pv_6_reduceLess (a0 : Int) (a1 : Int) (a2 : Int) (Q : iST → Prop) (u : iST) : Prop :=
  pv_7_item a1 1 (fun v1 u => 
  pv_7_item a2 1 (fun v2 u => 
  pv_7_isCallOf v1 11 (fun v3 u => 
  br (v3 ≠ 0) (
    pv_6_reduceLess_50 Q a0 a1 a2 v1 v2 u) (
    pv_7_isCallOf v1 12 (fun v18 u => 
    br (v18 = 0) (
      pv_6_reduceLess_55 Q a0 a1 a2 v1 v2 0 u) (
      pv_6_reduceLess_50 Q a0 a1 a2 v1 v2 u)) u)) u) u) u
theorem cj_v_6_reduceLess {Q1 Q2 Q3 : iST → Prop}  {a0 : Int} {a1 : Int} {a2 : Int} {u : iST} (hQ : ∀ r0, Q1 r0 → Q2 r0 → Q3 r0) : v_6_reduceLess a0 a1 a2 Q1 u → pv_6_reduceLess a0 a1 a2 Q2 u → v_6_reduceLess a0 a1 a2 Q3 u := (cj_v_7_item (fun _ _ => (cj_v_7_item (fun _ _ => (cj_v_7_isCallOf (fun _ _ => (br_cj (cj_v_6_reduceLess_50  hQ) (cj_v_7_isCallOf (fun _ _ => (br_cj (cj_v_6_reduceLess_55  hQ) (cj_v_6_reduceLess_50  hQ)))))))))))
theorem mn_v_6_reduceLess {Q1 Q2 : iST → Prop}  {a0 : Int} {a1 : Int} {a2 : Int} {u : iST} (hQ : ∀ r0, Q1 r0 → Q2 r0) : pv_6_reduceLess a0 a1 a2 Q1 u → pv_6_reduceLess a0 a1 a2 Q2 u := (mn_v_7_item (fun _ _ => (mn_v_7_item (fun _ _ => (mn_v_7_isCallOf (fun _ _ => (br_mn (mn_v_6_reduceLess_50  hQ) (mn_v_7_isCallOf (fun _ _ => (br_mn (mn_v_6_reduceLess_55  hQ) (mn_v_6_reduceLess_50  hQ)))))))))))
theorem wp_v_6_reduceLess {Q1 Q2 : iST → Prop}  {a0 : Int} {a1 : Int} {a2 : Int} {u : iST} (hQ : ∀ r0, Q1 r0 → Q2 r0) : v_6_reduceLess a0 a1 a2 Q1 u → pv_6_reduceLess a0 a1 a2 Q2 u := (wp_v_7_item (fun _ _ => (wp_v_7_item (fun _ _ => (wp_v_7_isCallOf (fun _ _ => (br_wp (wp_v_6_reduceLess_50  hQ) (wp_v_7_isCallOf (fun _ _ => (br_wp (wp_v_6_reduceLess_55  hQ) (wp_v_6_reduceLess_50  hQ)))))))))))
def pv_6_reduceOther_168 (Q : iST → Prop) (x1 : Int) (u : iST) : Prop :=
  bdp 3 17 (sw (iA u 51 (17 * x1 + 3) 11) (fun u => 
  Q u))
theorem cj_v_6_reduceOther_168 {Q1 Q2 Q3 : iST → Prop}  {x1 : Int} {u : iST} (hQ : ∀ r0, Q1 r0 → Q2 r0 → Q3 r0) : v_6_reduceOther_168 Q1 x1 u → pv_6_reduceOther_168 Q2 x1 u → v_6_reduceOther_168 Q3 x1 u := (bd_cj (sw_cj fun _ => (hQ _)))
theorem mn_v_6_reduceOther_168 {Q1 Q2 : iST → Prop}  {x1 : Int} {u : iST} (hQ : ∀ r0, Q1 r0 → Q2 r0) : pv_6_reduceOther_168 Q1 x1 u → pv_6_reduceOther_168 Q2 x1 u := (bd_mn (sw_mn fun _ => (hQ _)))
theorem wp_v_6_reduceOther_168 {Q1 Q2 : iST → Prop}  {x1 : Int} {u : iST} (hQ : ∀ r0, Q1 r0 → Q2 r0) : v_6_reduceOther_168 Q1 x1 u → pv_6_reduceOther_168 Q2 x1 u := (bd_wp (sw_wp fun _ => (hQ _)))
def pv_6_reduceOther_162 (Q : iST → Prop) (y1 : Int) (u : iST) : Prop :=
  pv_6_finish y1 (fun u => 
  Q u) u
theorem cj_v_6_reduceOther_162 {Q1 Q2 Q3 : iST → Prop}  {y1 : Int} {u : iST} (hQ : ∀ r0, Q1 r0 → Q2 r0 → Q3 r0) : v_6_reduceOther_162 Q1 y1 u → pv_6_reduceOther_162 Q2 y1 u → v_6_reduceOther_162 Q3 y1 u := (cj_v_6_finish (fun _ => (hQ _)))
theorem mn_v_6_reduceOther_162 {Q1 Q2 : iST → Prop}  {y1 : Int} {u : iST} (hQ : ∀ r0, Q1 r0 → Q2 r0) : pv_6_reduceOther_162 Q1 y1 u → pv_6_reduceOther_162 Q2 y1 u := (mn_v_6_finish (fun _ => (hQ _)))
theorem wp_v_6_reduceOther_162 {Q1 Q2 : iST → Prop}  {y1 : Int} {u : iST} (hQ : ∀ r0, Q1 r0 → Q2 r0) : v_6_reduceOther_162 Q1 y1 u → pv_6_reduceOther_162 Q2 y1 u := (wp_v_6_finish (fun _ => (hQ _)))
def pv_6_reduceOther_154 (Q : iST → Prop) (y1 : Int) (y2 : Int) (u : iST) : Prop :=
  br (y1 ≠ y2) (
    pv_6_reduceOther_162 Q 0 u) (
    pv_6_reduceOther_162 Q 1 u)
theorem cj_v_6_reduceOther_154 {Q1 Q2 Q3 : iST → Prop}  {y1 : Int} {y2 : Int} {u : iST} (hQ : ∀ r0, Q1 r0 → Q2 r0 → Q3 r0) : v_6_reduceOther_154 Q1 y1 y2 u → pv_6_reduceOther_154 Q2 y1 y2 u → v_6_reduceOther_154 Q3 y1 y2 u := (br_cj (cj_v_6_reduceOther_162  hQ) (cj_v_6_reduceOther_162  hQ))
theorem mn_v_6_reduceOther_154 {Q1 Q2 : iST → Prop}  {y1 : Int} {y2 : Int} {u : iST} (hQ : ∀ r0, Q1 r0 → Q2 r0) : pv_6_reduceOther_154 Q1 y1 y2 u → pv_6_reduceOther_154 Q2 y1 y2 u := (br_mn (mn_v_6_reduceOther_162  hQ) (mn_v_6_reduceOther_162  hQ))
theorem wp_v_6_reduceOther_154 {Q1 Q2 : iST → Prop}  {y1 : Int} {y2 : Int} {u : iST} (hQ : ∀ r0, Q1 r0 → Q2 r0) : v_6_reduceOther_154 Q1 y1 y2 u → pv_6_reduceOther_154 Q2 y1 y2 u := (br_wp (wp_v_6_reduceOther_162  hQ) (wp_v_6_reduceOther_162  hQ))
def pv_6_reduceOther_140 (Q : iST → Prop) (x2 : Int) (x4 : Int) (u : iST) : Prop :=
  br (x4 = 0) (
    pv_6_reduceOther_154 Q x2 13 u) (
    pv_6_reduceOther_154 Q x2 10 u)
theorem cj_v_6_reduceOther_140 {Q1 Q2 Q3 : iST → Prop}  {x2 : Int} {x4 : Int} {u : iST} (hQ : ∀ r0, Q1 r0 → Q2 r0 → Q3 r0) : v_6_reduceOther_140 Q1 x2 x4 u → pv_6_reduceOther_140 Q2 x2 x4 u → v_6_reduceOther_140 Q3 x2 x4 u := (br_cj (cj_v_6_reduceOther_154  hQ) (cj_v_6_reduceOther_154  hQ))
theorem mn_v_6_reduceOther_140 {Q1 Q2 : iST → Prop}  {x2 : Int} {x4 : Int} {u : iST} (hQ : ∀ r0, Q1 r0 → Q2 r0) : pv_6_reduceOther_140 Q1 x2 x4 u → pv_6_reduceOther_140 Q2 x2 x4 u := (br_mn (mn_v_6_reduceOther_154  hQ) (mn_v_6_reduceOther_154  hQ))
theorem wp_v_6_reduceOther_140 {Q1 Q2 : iST → Prop}  {x2 : Int} {x4 : Int} {u : iST} (hQ : ∀ r0, Q1 r0 → Q2 r0) : v_6_reduceOther_140 Q1 x2 x4 u → pv_6_reduceOther_140 Q2 x2 x4 u := (br_wp (wp_v_6_reduceOther_154  hQ) (wp_v_6_reduceOther_154  hQ))
def pv_6_reduceOther_125 (Q : iST → Prop) (x1 : Int) (x2 : Int) (x4 : Int) (x5 : Int) (x6 : Int) (u : iST) : Prop :=
  br (x6 = 0) (
    pv_6_reduceOther_168 Q x1 u) (
    br (x4 ≠ 0) (
      pv_6_reduceOther_140 Q x2 x4 u) (
      br (x5 = 0) (
        pv_6_reduceOther_168 Q x1 u) (
        pv_6_reduceOther_140 Q x2 x4 u)))
theorem cj_v_6_reduceOther_125 {Q1 Q2 Q3 : iST → Prop}  {x1 : Int} {x2 : Int} {x4 : Int} {x5 : Int} {x6 : Int} {u : iST} (hQ : ∀ r0, Q1 r0 → Q2 r0 → Q3 r0) : v_6_reduceOther_125 Q1 x1 x2 x4 x5 x6 u → pv_6_reduceOther_125 Q2 x1 x2 x4 x5 x6 u → v_6_reduceOther_125 Q3 x1 x2 x4 x5 x6 u := (br_cj (cj_v_6_reduceOther_168  hQ) (br_cj (cj_v_6_reduceOther_140  hQ) (br_cj (cj_v_6_reduceOther_168  hQ) (cj_v_6_reduceOther_140  hQ))))
theorem mn_v_6_reduceOther_125 {Q1 Q2 : iST → Prop}  {x1 : Int} {x2 : Int} {x4 : Int} {x5 : Int} {x6 : Int} {u : iST} (hQ : ∀ r0, Q1 r0 → Q2 r0) : pv_6_reduceOther_125 Q1 x1 x2 x4 x5 x6 u → pv_6_reduceOther_125 Q2 x1 x2 x4 x5 x6 u := (br_mn (mn_v_6_reduceOther_168  hQ) (br_mn (mn_v_6_reduceOther_140  hQ) (br_mn (mn_v_6_reduceOther_168  hQ) (mn_v_6_reduceOther_140  hQ))))
theorem wp_v_6_reduceOther_125 {Q1 Q2 : iST → Prop}  {x1 : Int} {x2 : Int} {x4 : Int} {x5 : Int} {x6 : Int} {u : iST} (hQ : ∀ r0, Q1 r0 → Q2 r0) : v_6_reduceOther_125 Q1 x1 x2 x4 x5 x6 u → pv_6_reduceOther_125 Q2 x1 x2 x4 x5 x6 u := (br_wp (wp_v_6_reduceOther_168  hQ) (br_wp (wp_v_6_reduceOther_140  hQ) (br_wp (wp_v_6_reduceOther_168  hQ) (wp_v_6_reduceOther_140  hQ))))
def pv_6_reduceOther_116 (Q : iST → Prop) (y2 : Int) (y3 : Int) (u : iST) : Prop :=
  pv_7_item y2 y3 (fun v4 u => 
  pv_6_finish v4 (fun u => 
  Q u) u) u
theorem cj_v_6_reduceOther_116 {Q1 Q2 Q3 : iST → Prop}  {y2 : Int} {y3 : Int} {u : iST} (hQ : ∀ r0, Q1 r0 → Q2 r0 → Q3 r0) : v_6_reduceOther_116 Q1 y2 y3 u → pv_6_reduceOther_116 Q2 y2 y3 u → v_6_reduceOther_116 Q3 y2 y3 u := (cj_v_7_item (fun _ _ => (cj_v_6_finish (fun _ => (hQ _)))))
theorem mn_v_6_reduceOther_116 {Q1 Q2 : iST → Prop}  {y2 : Int} {y3 : Int} {u : iST} (hQ : ∀ r0, Q1 r0 → Q2 r0) : pv_6_reduceOther_116 Q1 y2 y3 u → pv_6_reduceOther_116 Q2 y2 y3 u := (mn_v_7_item (fun _ _ => (mn_v_6_finish (fun _ => (hQ _)))))
theorem wp_v_6_reduceOther_116 {Q1 Q2 : iST → Prop}  {y2 : Int} {y3 : Int} {u : iST} (hQ : ∀ r0, Q1 r0 → Q2 r0) : v_6_reduceOther_116 Q1 y2 y3 u → pv_6_reduceOther_116 Q2 y2 y3 u := (wp_v_7_item (fun _ _ => (wp_v_6_finish (fun _ => (hQ _)))))
def pv_6_reduceOther_99 (Q : iST → Prop) (x2 : Int) (x3 : Int) (u : iST) : Prop :=
  br (x2 ≠ 11) (
    pv_6_reduceOther_116 Q x3 2 u) (
    pv_6_reduceOther_116 Q x3 1 u)
theorem cj_v_6_reduceOther_99 {Q1 Q2 Q3 : iST → Prop}  {x2 : Int} {x3 : Int} {u : iST} (hQ : ∀ r0, Q1 r0 → Q2 r0 → Q3 r0) : v_6_reduceOther_99 Q1 x2 x3 u → pv_6_reduceOther_99 Q2 x2 x3 u → v_6_reduceOther_99 Q3 x2 x3 u := (br_cj (cj_v_6_reduceOther_116  hQ) (cj_v_6_reduceOther_116  hQ))
theorem mn_v_6_reduceOther_99 {Q1 Q2 : iST → Prop}  {x2 : Int} {x3 : Int} {u : iST} (hQ : ∀ r0, Q1 r0 → Q2 r0) : pv_6_reduceOther_99 Q1 x2 x3 u → pv_6_reduceOther_99 Q2 x2 x3 u := (br_mn (mn_v_6_reduceOther_116  hQ) (mn_v_6_reduceOther_116  hQ))
theorem wp_v_6_reduceOther_99 {Q1 Q2 : iST → Prop}  {x2 : Int} {x3 : Int} {u : iST} (hQ : ∀ r0, Q1 r0 → Q2 r0) : v_6_reduceOther_99 Q1 x2 x3 u → pv_6_reduceOther_99 Q2 x2 x3 u := (br_wp (wp_v_6_reduceOther_116  hQ) (wp_v_6_reduceOther_116  hQ))
def pv_6_reduceOther_80 (Q : iST → Prop) (x1 : Int) (x2 : Int) (x3 : Int) (x4 : Int) (x5 : Int) (y0 : Int) (u : iST) : Prop :=
  br (x4 = 0) (
    pv_6_reduceOther_125 Q x1 x2 x4 x5 y0 u) (
    br (x2 = 11) (
      pv_6_reduceOther_99 Q x2 x3 u) (
      br (x2 ≠ 12) (
        pv_6_reduceOther_125 Q x1 x2 x4 x5 y0 u) (
        pv_6_reduceOther_99 Q x2 x3 u)))
theorem cj_v_6_reduceOther_80 {Q1 Q2 Q3 : iST → Prop}  {x1 : Int} {x2 : Int} {x3 : Int} {x4 : Int} {x5 : Int} {y0 : Int} {u : iST} (hQ : ∀ r0, Q1 r0 → Q2 r0 → Q3 r0) : v_6_reduceOther_80 Q1 x1 x2 x3 x4 x5 y0 u → pv_6_reduceOther_80 Q2 x1 x2 x3 x4 x5 y0 u → v_6_reduceOther_80 Q3 x1 x2 x3 x4 x5 y0 u := (br_cj (cj_v_6_reduceOther_125  hQ) (br_cj (cj_v_6_reduceOther_99  hQ) (br_cj (cj_v_6_reduceOther_125  hQ) (cj_v_6_reduceOther_99  hQ))))
theorem mn_v_6_reduceOther_80 {Q1 Q2 : iST → Prop}  {x1 : Int} {x2 : Int} {x3 : Int} {x4 : Int} {x5 : Int} {y0 : Int} {u : iST} (hQ : ∀ r0, Q1 r0 → Q2 r0) : pv_6_reduceOther_80 Q1 x1 x2 x3 x4 x5 y0 u → pv_6_reduceOther_80 Q2 x1 x2 x3 x4 x5 y0 u := (br_mn (mn_v_6_reduceOther_125  hQ) (br_mn (mn_v_6_reduceOther_99  hQ) (br_mn (mn_v_6_reduceOther_125  hQ) (mn_v_6_reduceOther_99  hQ))))
theorem wp_v_6_reduceOther_80 {Q1 Q2 : iST → Prop}  {x1 : Int} {x2 : Int} {x3 : Int} {x4 : Int} {x5 : Int} {y0 : Int} {u : iST} (hQ : ∀ r0, Q1 r0 → Q2 r0) : v_6_reduceOther_80 Q1 x1 x2 x3 x4 x5 y0 u → pv_6_reduceOther_80 Q2 x1 x2 x3 x4 x5 y0 u := (br_wp (wp_v_6_reduceOther_125  hQ) (br_wp (wp_v_6_reduceOther_99  hQ) (br_wp (wp_v_6_reduceOther_125  hQ) (wp_v_6_reduceOther_99  hQ))))
def pv_6_reduceOther_75 (Q : iST → Prop) (x1 : Int) (x2 : Int) (x3 : Int) (x4 : Int) (x5 : Int) (u : iST) : Prop :=
  pv_6_reduceOther_80 Q x1 x2 x3 x4 x5 1 u
theorem cj_v_6_reduceOther_75 {Q1 Q2 Q3 : iST → Prop}  {x1 : Int} {x2 : Int} {x3 : Int} {x4 : Int} {x5 : Int} {u : iST} (hQ : ∀ r0, Q1 r0 → Q2 r0 → Q3 r0) : v_6_reduceOther_75 Q1 x1 x2 x3 x4 x5 u → pv_6_reduceOther_75 Q2 x1 x2 x3 x4 x5 u → v_6_reduceOther_75 Q3 x1 x2 x3 x4 x5 u := (cj_v_6_reduceOther_80  hQ)
theorem mn_v_6_reduceOther_75 {Q1 Q2 : iST → Prop}  {x1 : Int} {x2 : Int} {x3 : Int} {x4 : Int} {x5 : Int} {u : iST} (hQ : ∀ r0, Q1 r0 → Q2 r0) : pv_6_reduceOther_75 Q1 x1 x2 x3 x4 x5 u → pv_6_reduceOther_75 Q2 x1 x2 x3 x4 x5 u := (mn_v_6_reduceOther_80  hQ)
theorem wp_v_6_reduceOther_75 {Q1 Q2 : iST → Prop}  {x1 : Int} {x2 : Int} {x3 : Int} {x4 : Int} {x5 : Int} {u : iST} (hQ : ∀ r0, Q1 r0 → Q2 r0) : v_6_reduceOther_75 Q1 x1 x2 x3 x4 x5 u → pv_6_reduceOther_75 Q2 x1 x2 x3 x4 x5 u := (wp_v_6_reduceOther_80  hQ)
def pv_6_reduceOther_55 (Q : iST → Prop) (x1 : Int) (x2 : Int) (x3 : Int) (x4 : Int) (y0 : Int) (u : iST) : Prop :=
  br (x2 = 10) (
    pv_6_reduceOther_75 Q x1 x2 x3 x4 y0 u) (
    br (x2 = 13) (
      pv_6_reduceOther_75 Q x1 x2 x3 x4 y0 u) (
      br (x2 ≠ 14) (
        pv_6_reduceOther_80 Q x1 x2 x3 x4 y0 0 u) (
        pv_6_reduceOther_75 Q x1 x2 x3 x4 y0 u)))
theorem cj_v_6_reduceOther_55 {Q1 Q2 Q3 : iST → Prop}  {x1 : Int} {x2 : Int} {x3 : Int} {x4 : Int} {y0 : Int} {u : iST} (hQ : ∀ r0, Q1 r0 → Q2 r0 → Q3 r0) : v_6_reduceOther_55 Q1 x1 x2 x3 x4 y0 u → pv_6_reduceOther_55 Q2 x1 x2 x3 x4 y0 u → v_6_reduceOther_55 Q3 x1 x2 x3 x4 y0 u := (br_cj (cj_v_6_reduceOther_75  hQ) (br_cj (cj_v_6_reduceOther_75  hQ) (br_cj (cj_v_6_reduceOther_80  hQ) (cj_v_6_reduceOther_75  hQ))))
theorem mn_v_6_reduceOther_55 {Q1 Q2 : iST → Prop}  {x1 : Int} {x2 : Int} {x3 : Int} {x4 : Int} {y0 : Int} {u : iST} (hQ : ∀ r0, Q1 r0 → Q2 r0) : pv_6_reduceOther_55 Q1 x1 x2 x3 x4 y0 u → pv_6_reduceOther_55 Q2 x1 x2 x3 x4 y0 u := (br_mn (mn_v_6_reduceOther_75  hQ) (br_mn (mn_v_6_reduceOther_75  hQ) (br_mn (mn_v_6_reduceOther_80  hQ) (mn_v_6_reduceOther_75  hQ))))
theorem wp_v_6_reduceOther_55 {Q1 Q2 : iST → Prop}  {x1 : Int} {x2 : Int} {x3 : Int} {x4 : Int} {y0 : Int} {u : iST} (hQ : ∀ r0, Q1 r0 → Q2 r0) : v_6_reduceOther_55 Q1 x1 x2 x3 x4 y0 u → pv_6_reduceOther_55 Q2 x1 x2 x3 x4 y0 u := (br_wp (wp_v_6_reduceOther_75  hQ) (br_wp (wp_v_6_reduceOther_75  hQ) (br_wp (wp_v_6_reduceOther_80  hQ) (wp_v_6_reduceOther_75  hQ))))
def pv_6_reduceOther_50 (Q : iST → Prop) (x1 : Int) (x2 : Int) (x3 : Int) (x4 : Int) (u : iST) : Prop :=
  pv_6_reduceOther_55 Q x1 x2 x3 x4 1 u
theorem cj_v_6_reduceOther_50 {Q1 Q2 Q3 : iST → Prop}  {x1 : Int} {x2 : Int} {x3 : Int} {x4 : Int} {u : iST} (hQ : ∀ r0, Q1 r0 → Q2 r0 → Q3 r0) : v_6_reduceOther_50 Q1 x1 x2 x3 x4 u → pv_6_reduceOther_50 Q2 x1 x2 x3 x4 u → v_6_reduceOther_50 Q3 x1 x2 x3 x4 u := (cj_v_6_reduceOther_55  hQ)
theorem mn_v_6_reduceOther_50 {Q1 Q2 : iST → Prop}  {x1 : Int} {x2 : Int} {x3 : Int} {x4 : Int} {u : iST} (hQ : ∀ r0, Q1 r0 → Q2 r0) : pv_6_reduceOther_50 Q1 x1 x2 x3 x4 u → pv_6_reduceOther_50 Q2 x1 x2 x3 x4 u := (mn_v_6_reduceOther_55  hQ)
theorem wp_v_6_reduceOther_50 {Q1 Q2 : iST → Prop}  {x1 : Int} {x2 : Int} {x3 : Int} {x4 : Int} {u : iST} (hQ : ∀ r0, Q1 r0 → Q2 r0) : v_6_reduceOther_50 Q1 x1 x2 x3 x4 u → pv_6_reduceOther_50 Q2 x1 x2 x3 x4 u := (wp_v_6_reduceOther_55  hQ)
def pv_6_reduceOther (a0 : Int) (a1 : Int) (a2 : Int) (Q : iST → Prop) (u : iST) : Prop :=
  pv_7_isCallOf a2 5 (fun v1 u => 
  pv_7_isCallOf a2 7 (fun v2 u => 
  br (v2 ≠ 0) (
    pv_6_reduceOther_50 Q a0 a1 a2 v1 u) (
    pv_7_isCallOf a2 8 (fun v6 u => 
    br (v6 ≠ 0) (
      pv_6_reduceOther_50 Q a0 a1 a2 v1 u) (
      pv_7_isCallOf a2 15 (fun v7 u => 
      br (v7 = 0) (
        pv_6_reduceOther_55 Q a0 a1 a2 v1 0 u) (
        pv_6_reduceOther_50 Q a0 a1 a2 v1 u)) u)) u)) u) u
theorem cj_v_6_reduceOther {Q1 Q2 Q3 : iST → Prop}  {a0 : Int} {a1 : Int} {a2 : Int} {u : iST} (hQ : ∀ r0, Q1 r0 → Q2 r0 → Q3 r0) : v_6_reduceOther a0 a1 a2 Q1 u → pv_6_reduceOther a0 a1 a2 Q2 u → v_6_reduceOther a0 a1 a2 Q3 u := (cj_v_7_isCallOf (fun _ _ => (cj_v_7_isCallOf (fun _ _ => (br_cj (cj_v_6_reduceOther_50  hQ) (cj_v_7_isCallOf (fun _ _ => (br_cj (cj_v_6_reduceOther_50  hQ) (cj_v_7_isCallOf (fun _ _ => (br_cj (cj_v_6_reduceOther_55  hQ) (cj_v_6_reduceOther_50  hQ))))))))))))
theorem mn_v_6_reduceOther {Q1 Q2 : iST → Prop}  {a0 : Int} {a1 : Int} {a2 : Int} {u : iST} (hQ : ∀ r0, Q1 r0 → Q2 r0) : pv_6_reduceOther a0 a1 a2 Q1 u → pv_6_reduceOther a0 a1 a2 Q2 u := (mn_v_7_isCallOf (fun _ _ => (mn_v_7_isCallOf (fun _ _ => (br_mn (mn_v_6_reduceOther_50  hQ) (mn_v_7_isCallOf (fun _ _ => (br_mn (mn_v_6_reduceOther_50  hQ) (mn_v_7_isCallOf (fun _ _ => (br_mn (mn_v_6_reduceOther_55  hQ) (mn_v_6_reduceOther_50  hQ))))))))))))
theorem wp_v_6_reduceOther {Q1 Q2 : iST → Prop}  {a0 : Int} {a1 : Int} {a2 : Int} {u : iST} (hQ : ∀ r0, Q1 r0 → Q2 r0) : v_6_reduceOther a0 a1 a2 Q1 u → pv_6_reduceOther a0 a1 a2 Q2 u := (wp_v_7_isCallOf (fun _ _ => (wp_v_7_isCallOf (fun _ _ => (br_wp (wp_v_6_reduceOther_50  hQ) (wp_v_7_isCallOf (fun _ _ => (br_wp (wp_v_6_reduceOther_50  hQ) (wp_v_7_isCallOf (fun _ _ => (br_wp (wp_v_6_reduceOther_55  hQ) (wp_v_6_reduceOther_50  hQ))))))))))))
def pv_6_lookUp (a0 : Int) (Q : iST → Prop) (u : iST) : Prop :=
  bdp 5 17 (rd (u.2.1 51 (17 * a0 + 5)) (fun v1 => 
  bdp 1 17 (rd (u.2.1 51 (17 * a0 + 1)) (fun v2 => 
  bdp 2 17 (rd (u.2.1 51 (17 * a0 + 2)) (fun v3 => 
  pv_6_lookedUp v1 v2 v3 (fun v4 u => 
  bdp 5 17 (rd (u.2.1 51 (17 * a0 + 5)) (fun v5 => 
  br (v4 = v5) (
    bdp 3 17 (sw (iA u 51 (17 * a0 + 3) 12) (fun u => 
    rd (u.1 25) (fun v6 => 
    ovp (v6 - 1) (
    bdp 8 17 (sw (iA u 51 (17 * a0 + 8) (v6 - 1)) (fun u => 
    Q u))))))) (
    pv_6_finish v4 (fun u => 
    Q u) u)))) u))))))
theorem cj_v_6_lookUp {Q1 Q2 Q3 : iST → Prop}  {a0 : Int} {u : iST} (hQ : ∀ r0, Q1 r0 → Q2 r0 → Q3 r0) : v_6_lookUp a0 Q1 u → pv_6_lookUp a0 Q2 u → v_6_lookUp a0 Q3 u := (bd_cj (rd_cj fun _ => (bd_cj (rd_cj fun _ => (bd_cj (rd_cj fun _ => (cj_v_6_lookedUp (fun _ _ => (bd_cj (rd_cj fun _ => (br_cj (bd_cj (sw_cj fun _ => (rd_cj fun _ => (ov_cj (bd_cj (sw_cj fun _ => (hQ _))))))) (cj_v_6_finish (fun _ => (hQ _))))))))))))))
theorem mn_v_6_lookUp {Q1 Q2 : iST → Prop}  {a0 : Int} {u : iST} (hQ : ∀ r0, Q1 r0 → Q2 r0) : pv_6_lookUp a0 Q1 u → pv_6_lookUp a0 Q2 u := (bd_mn (rd_mn fun _ => (bd_mn (rd_mn fun _ => (bd_mn (rd_mn fun _ => (mn_v_6_lookedUp (fun _ _ => (bd_mn (rd_mn fun _ => (br_mn (bd_mn (sw_mn fun _ => (rd_mn fun _ => (ov_mn (bd_mn (sw_mn fun _ => (hQ _))))))) (mn_v_6_finish (fun _ => (hQ _))))))))))))))
theorem wp_v_6_lookUp {Q1 Q2 : iST → Prop}  {a0 : Int} {u : iST} (hQ : ∀ r0, Q1 r0 → Q2 r0) : v_6_lookUp a0 Q1 u → pv_6_lookUp a0 Q2 u := (bd_wp (rd_wp fun _ => (bd_wp (rd_wp fun _ => (bd_wp (rd_wp fun _ => (wp_v_6_lookedUp (fun _ _ => (bd_wp (rd_wp fun _ => (br_wp (bd_wp (sw_wp fun _ => (rd_wp fun _ => (ov_wp (bd_wp (sw_wp fun _ => (hQ _))))))) (wp_v_6_finish (fun _ => (hQ _))))))))))))))
def pv_10_matches_169b (R24 : Int → Int → iST → Prop) (R169 : Int → Int → Int → Int → iST → Prop) (Q : Int → iST → Prop) (x3 : Int) (x4 : Int) (x7 : Int) (x8 : Int) (u : iST) : Prop :=
  pv_7_isPair x8 (fun v10 u => 
  br (v10 = 0) (
    ovp (x4 + 1) (
    R24 x3 (x4 + 1) u)) (
    br (128 ≤ x3) (
      ovp (x4 + 1) (
      R24 x3 (x4 + 1) u)) (
      pv_7_left x8 (fun v13 u => 
      bdp x3 128 (sw (iA u 41 x3 v13) (fun u => 
      pv_7_left x7 (fun v14 u => 
      bdp x3 128 (sw (iA u 42 x3 v14) (fun u => 
      pv_7_right x7 (fun v15 u => 
      ovp (x3 + 1) (
      pv_7_right x8 (fun v17 u => 
      R169 (x3 + 1) x4 v15 v17 u) u)) u))) u))) u))) u
theorem cj_v_10_matches_169b {Q1 Q2 Q3 : Int → iST → Prop} {R241 R242 R243 : Int → Int → iST → Prop} {R1691 R1692 R1693 : Int → Int → Int → Int → iST → Prop} {x3 : Int} {x4 : Int} {x7 : Int} {x8 : Int} {u : iST} (hR24 : ∀ r0 r1 r2, R241 r0 r1 r2 → R242 r0 r1 r2 → R243 r0 r1 r2) (hR169 : ∀ r0 r1 r2 r3 r4, R1691 r0 r1 r2 r3 r4 → R1692 r0 r1 r2 r3 r4 → R1693 r0 r1 r2 r3 r4) (hQ : ∀ r0 r1, Q1 r0 r1 → Q2 r0 r1 → Q3 r0 r1) : v_10_matches_169b R241 R1691 Q1 x3 x4 x7 x8 u → pv_10_matches_169b R242 R1692 Q2 x3 x4 x7 x8 u → v_10_matches_169b R243 R1693 Q3 x3 x4 x7 x8 u := (cj_v_7_isPair (fun _ _ => (br_cj (ov_cj (hR24 _ _ _)) (br_cj (ov_cj (hR24 _ _ _)) (cj_v_7_left (fun _ _ => (bd_cj (sw_cj fun _ => (cj_v_7_left (fun _ _ => (bd_cj (sw_cj fun _ => (cj_v_7_right (fun _ _ => (ov_cj (cj_v_7_right (fun _ _ => (hR169 _ _ _ _ _))))))))))))))))))
theorem mn_v_10_matches_169b {Q1 Q2 : Int → iST → Prop} {R241 R242 : Int → Int → iST → Prop} {R1691 R1692 : Int → Int → Int → Int → iST → Prop} {x3 : Int} {x4 : Int} {x7 : Int} {x8 : Int} {u : iST} (hR24 : ∀ r0 r1 r2, R241 r0 r1 r2 → R242 r0 r1 r2) (hR169 : ∀ r0 r1 r2 r3 r4, R1691 r0 r1 r2 r3 r4 → R1692 r0 r1 r2 r3 r4) (hQ : ∀ r0 r1, Q1 r0 r1 → Q2 r0 r1) : pv_10_matches_169b R241 R1691 Q1 x3 x4 x7 x8 u → pv_10_matches_169b R242 R1692 Q2 x3 x4 x7 x8 u := (mn_v_7_isPair (fun _ _ => (br_mn (ov_mn (hR24 _ _ _)) (br_mn (ov_mn (hR24 _ _ _)) (mn_v_7_left (fun _ _ => (bd_mn (sw_mn fun _ => (mn_v_7_left (fun _ _ => (bd_mn (sw_mn fun _ => (mn_v_7_right (fun _ _ => (ov_mn (mn_v_7_right (fun _ _ => (hR169 _ _ _ _ _))))))))))))))))))
theorem wp_v_10_matches_169b {Q1 Q2 : Int → iST → Prop} {R241 R242 : Int → Int → iST → Prop} {R1691 R1692 : Int → Int → Int → Int → iST → Prop} {x3 : Int} {x4 : Int} {x7 : Int} {x8 : Int} {u : iST} (hR24 : ∀ r0 r1 r2, R241 r0 r1 r2 → R242 r0 r1 r2) (hR169 : ∀ r0 r1 r2 r3 r4, R1691 r0 r1 r2 r3 r4 → R1692 r0 r1 r2 r3 r4) (hQ : ∀ r0 r1, Q1 r0 r1 → Q2 r0 r1) : v_10_matches_169b R241 R1691 Q1 x3 x4 x7 x8 u → pv_10_matches_169b R242 R1692 Q2 x3 x4 x7 x8 u := (wp_v_7_isPair (fun _ _ => (br_wp (ov_wp (hR24 _ _ _)) (br_wp (ov_wp (hR24 _ _ _)) (wp_v_7_left (fun _ _ => (bd_wp (sw_wp fun _ => (wp_v_7_left (fun _ _ => (bd_wp (sw_wp fun _ => (wp_v_7_right (fun _ _ => (ov_wp (wp_v_7_right (fun _ _ => (hR169 _ _ _ _ _))))))))))))))))))
def pv_10_matches_169 (R24 : Int → Int → iST → Prop) (Q : Int → iST → Prop) (x3 : Int) (x4 : Int) (x7 : Int) (x8 : Int) (u : iST) : Prop := ∃ R169 : Int → Int → Int → Int → iST → Prop, (∀ (x3 : Int) (x4 : Int) (x7 : Int) (x8 : Int) (u : iST), R169 x3 x4 x7 x8 u → pv_10_matches_169b R24 R169 Q x3 x4 x7 x8 u) ∧ R169 x3 x4 x7 x8 u
theorem cj_v_10_matches_169 {Q1 Q2 Q3 : Int → iST → Prop} {R241 R242 R243 : Int → Int → iST → Prop} {x3 : Int} {x4 : Int} {x7 : Int} {x8 : Int} {u : iST} (hR24 : ∀ r0 r1 r2, R241 r0 r1 r2 → R242 r0 r1 r2 → R243 r0 r1 r2) (hQ : ∀ r0 r1, Q1 r0 r1 → Q2 r0 r1 → Q3 r0 r1) : v_10_matches_169 R241 Q1 x3 x4 x7 x8 u → pv_10_matches_169 R242 Q2 x3 x4 x7 x8 u → v_10_matches_169 R243 Q3 x3 x4 x7 x8 u := by
  intro a b R3 c3
  obtain ⟨R2, c2, b2⟩ := b
  exact a (fun r0 r1 r2 r3 r4 => R2 r0 r1 r2 r3 r4 → R3 r0 r1 r2 r3 r4) (fun r0 r1 r2 r3 r4 a b => c3 r0 r1 r2 r3 r4 (cj_v_10_matches_169b hR24 (fun r0 r1 r2 r3 r4 a b => a b) hQ a (c2 r0 r1 r2 r3 r4 b))) b2
theorem pv_10_matches_169_i {R24 : Int → Int → iST → Prop} {Q : Int → iST → Prop} {x3 : Int} {x4 : Int} {x7 : Int} {x8 : Int} {u : iST} (I : Int → Int → Int → Int → iST → Prop) (s : ∀ (x3 : Int) (x4 : Int) (x7 : Int) (x8 : Int) (u : iST), I x3 x4 x7 x8 u → pv_10_matches_169b R24 I Q x3 x4 x7 x8 u) (h : I x3 x4 x7 x8 u) : pv_10_matches_169 R24 Q x3 x4 x7 x8 u := ⟨I, s, h⟩
theorem mn_v_10_matches_169 {Q1 Q2 : Int → iST → Prop} {R241 R242 : Int → Int → iST → Prop} {x3 : Int} {x4 : Int} {x7 : Int} {x8 : Int} {u : iST} (hR24 : ∀ r0 r1 r2, R241 r0 r1 r2 → R242 r0 r1 r2) (hQ : ∀ r0 r1, Q1 r0 r1 → Q2 r0 r1) : pv_10_matches_169 R241 Q1 x3 x4 x7 x8 u → pv_10_matches_169 R242 Q2 x3 x4 x7 x8 u := fun ⟨R, s, h⟩ => ⟨R, fun r0 r1 r2 r3 r4 a => mn_v_10_matches_169b hR24 (fun r0 r1 r2 r3 r4 a => a) hQ (s r0 r1 r2 r3 r4 a), h⟩
theorem un_v_10_matches_169 {R24 : Int → Int → iST → Prop} {Q : Int → iST → Prop} {x3 : Int} {x4 : Int} {x7 : Int} {x8 : Int} {u : iST} : pv_10_matches_169 R24 Q x3 x4 x7 x8 u → pv_10_matches_169b R24 (fun x3 x4 x7 x8 u => pv_10_matches_169 R24 Q x3 x4 x7 x8 u) Q x3 x4 x7 x8 u := fun ⟨R, s, h⟩ => mn_v_10_matches_169b (fun _ _ _ h => h) (fun r0 r1 r2 r3 r4 a => ⟨R, s, a⟩) (fun _ _ h => h) (s _ _ _ _ _ h)
theorem fo_v_10_matches_169 {R24 : Int → Int → iST → Prop} {Q : Int → iST → Prop} {x3 : Int} {x4 : Int} {x7 : Int} {x8 : Int} {u : iST} : pv_10_matches_169b R24 (fun x3 x4 x7 x8 u => pv_10_matches_169 R24 Q x3 x4 x7 x8 u) Q x3 x4 x7 x8 u → pv_10_matches_169 R24 Q x3 x4 x7 x8 u := fun h => ⟨fun x3 x4 x7 x8 u => pv_10_matches_169b R24 (fun x3 x4 x7 x8 u => pv_10_matches_169 R24 Q x3 x4 x7 x8 u) Q x3 x4 x7 x8 u, fun r0 r1 r2 r3 r4 a => mn_v_10_matches_169b (fun _ _ _ h => h) (fun r0 r1 r2 r3 r4 a => un_v_10_matches_169 a) (fun _ _ h => h) a, h⟩
theorem wp_v_10_matches_169 {Q1 Q2 : Int → iST → Prop} {R241 R242 : Int → Int → iST → Prop} {x3 : Int} {x4 : Int} {x7 : Int} {x8 : Int} {u : iST} (hR24 : ∀ r0 r1 r2, R241 r0 r1 r2 → R242 r0 r1 r2) (hQ : ∀ r0 r1, Q1 r0 r1 → Q2 r0 r1) : v_10_matches_169 R241 Q1 x3 x4 x7 x8 u → pv_10_matches_169 R242 Q2 x3 x4 x7 x8 u := fun a => a (fun x3 x4 x7 x8 u => pv_10_matches_169 R242 Q2 x3 x4 x7 x8 u) (fun x3 x4 x7 x8 u b => fo_v_10_matches_169 (wp_v_10_matches_169b hR24 (fun r0 r1 r2 r3 r4 a => a) hQ b))
def pv_10_matches_24b (R24 : Int → Int → iST → Prop) (Q : Int → iST → Prop) (x3 : Int) (x4 : Int) (u : iST) : Prop :=
  br (1000000 ≤ x4) (
    ztp 1 (Q 1 u)) (
    br (x3 ≤ 0) (
      ztp 1 (Q 1 u)) (
      ovp (x3 + (-1)) (
      bdp (x3 + (-1)) 128 (rd (u.2.1 41 (x3 + (-1))) (fun v2 => 
      bdp (x3 + (-1)) 128 (rd (u.2.1 42 (x3 + (-1))) (fun v3 => 
      pv_7_isVariable v2 (fun v4 u => 
      br (v4 = 0) (
        pv_7_isCall v2 (fun v5 u => 
        br (v5 ≠ 0) (
          pv_7_left v2 (fun v6 u => 
          pv_7_isCallOf v3 v6 (fun v7 u => 
          br (v7 ≠ 0) (
            pv_7_right v3 (fun v8 u => 
            pv_7_right v2 (fun v9 u => 
            pv_10_matches_169 R24 Q (x3 + (-1)) x4 v8 v9 u) u) u) (
            ztp 0 (Q 0 u))) u) u) (
          br (v2 = v3) (
            ovp (x4 + 1) (
            R24 (x3 + (-1)) (x4 + 1) u)) (
            ztp 0 (Q 0 u)))) u) (
        pv_10_standsFor v2 (fun v19 u => 
        br (v19 ≠ (-1)) (
          br (v19 = v3) (
            ovp (x4 + 1) (
            R24 (x3 + (-1)) (x4 + 1) u)) (
            ztp 0 (Q 0 u))) (
          pv_10_bind v2 v3 (fun u => 
          ovp (x4 + 1) (
          R24 (x3 + (-1)) (x4 + 1) u)) u)) u)) u)))))))
theorem cj_v_10_matches_24b {Q1 Q2 Q3 : Int → iST → Prop} {R241 R242 R243 : Int → Int → iST → Prop} {x3 : Int} {x4 : Int} {u : iST} (hR24 : ∀ r0 r1 r2, R241 r0 r1 r2 → R242 r0 r1 r2 → R243 r0 r1 r2) (hQ : ∀ r0 r1, Q1 r0 r1 → Q2 r0 r1 → Q3 r0 r1) : v_10_matches_24b R241 Q1 x3 x4 u → pv_10_matches_24b R242 Q2 x3 x4 u → v_10_matches_24b R243 Q3 x3 x4 u := (br_cj (zt_cj (hQ _ _)) (br_cj (zt_cj (hQ _ _)) (ov_cj (bd_cj (rd_cj fun _ => (bd_cj (rd_cj fun _ => (cj_v_7_isVariable (fun _ _ => (br_cj (cj_v_7_isCall (fun _ _ => (br_cj (cj_v_7_left (fun _ _ => (cj_v_7_isCallOf (fun _ _ => (br_cj (cj_v_7_right (fun _ _ => (cj_v_7_right (fun _ _ => (cj_v_10_matches_169 hR24 hQ))))) (zt_cj (hQ _ _))))))) (br_cj (ov_cj (hR24 _ _ _)) (zt_cj (hQ _ _)))))) (cj_v_10_standsFor (fun _ _ => (br_cj (br_cj (ov_cj (hR24 _ _ _)) (zt_cj (hQ _ _))) (cj_v_10_bind (fun _ => (ov_cj (hR24 _ _ _)))))))))))))))))
theorem mn_v_10_matches_24b {Q1 Q2 : Int → iST → Prop} {R241 R242 : Int → Int → iST → Prop} {x3 : Int} {x4 : Int} {u : iST} (hR24 : ∀ r0 r1 r2, R241 r0 r1 r2 → R242 r0 r1 r2) (hQ : ∀ r0 r1, Q1 r0 r1 → Q2 r0 r1) : pv_10_matches_24b R241 Q1 x3 x4 u → pv_10_matches_24b R242 Q2 x3 x4 u := (br_mn (zt_mn (hQ _ _)) (br_mn (zt_mn (hQ _ _)) (ov_mn (bd_mn (rd_mn fun _ => (bd_mn (rd_mn fun _ => (mn_v_7_isVariable (fun _ _ => (br_mn (mn_v_7_isCall (fun _ _ => (br_mn (mn_v_7_left (fun _ _ => (mn_v_7_isCallOf (fun _ _ => (br_mn (mn_v_7_right (fun _ _ => (mn_v_7_right (fun _ _ => (mn_v_10_matches_169 hR24 hQ))))) (zt_mn (hQ _ _))))))) (br_mn (ov_mn (hR24 _ _ _)) (zt_mn (hQ _ _)))))) (mn_v_10_standsFor (fun _ _ => (br_mn (br_mn (ov_mn (hR24 _ _ _)) (zt_mn (hQ _ _))) (mn_v_10_bind (fun _ => (ov_mn (hR24 _ _ _)))))))))))))))))
theorem wp_v_10_matches_24b {Q1 Q2 : Int → iST → Prop} {R241 R242 : Int → Int → iST → Prop} {x3 : Int} {x4 : Int} {u : iST} (hR24 : ∀ r0 r1 r2, R241 r0 r1 r2 → R242 r0 r1 r2) (hQ : ∀ r0 r1, Q1 r0 r1 → Q2 r0 r1) : v_10_matches_24b R241 Q1 x3 x4 u → pv_10_matches_24b R242 Q2 x3 x4 u := (br_wp (zt_wp (hQ _ _)) (br_wp (zt_wp (hQ _ _)) (ov_wp (bd_wp (rd_wp fun _ => (bd_wp (rd_wp fun _ => (wp_v_7_isVariable (fun _ _ => (br_wp (wp_v_7_isCall (fun _ _ => (br_wp (wp_v_7_left (fun _ _ => (wp_v_7_isCallOf (fun _ _ => (br_wp (wp_v_7_right (fun _ _ => (wp_v_7_right (fun _ _ => (wp_v_10_matches_169 hR24 hQ))))) (zt_wp (hQ _ _))))))) (br_wp (ov_wp (hR24 _ _ _)) (zt_wp (hQ _ _)))))) (wp_v_10_standsFor (fun _ _ => (br_wp (br_wp (ov_wp (hR24 _ _ _)) (zt_wp (hQ _ _))) (wp_v_10_bind (fun _ => (ov_wp (hR24 _ _ _)))))))))))))))))
def pv_10_matches_24 (Q : Int → iST → Prop) (x3 : Int) (x4 : Int) (u : iST) : Prop := ∃ R24 : Int → Int → iST → Prop, (∀ (x3 : Int) (x4 : Int) (u : iST), R24 x3 x4 u → pv_10_matches_24b R24 Q x3 x4 u) ∧ R24 x3 x4 u
theorem cj_v_10_matches_24 {Q1 Q2 Q3 : Int → iST → Prop}  {x3 : Int} {x4 : Int} {u : iST} (hQ : ∀ r0 r1, Q1 r0 r1 → Q2 r0 r1 → Q3 r0 r1) : v_10_matches_24 Q1 x3 x4 u → pv_10_matches_24 Q2 x3 x4 u → v_10_matches_24 Q3 x3 x4 u := by
  intro a b R3 c3
  obtain ⟨R2, c2, b2⟩ := b
  exact a (fun r0 r1 r2 => R2 r0 r1 r2 → R3 r0 r1 r2) (fun r0 r1 r2 a b => c3 r0 r1 r2 (cj_v_10_matches_24b (fun r0 r1 r2 a b => a b) hQ a (c2 r0 r1 r2 b))) b2
theorem pv_10_matches_24_i  {Q : Int → iST → Prop} {x3 : Int} {x4 : Int} {u : iST} (I : Int → Int → iST → Prop) (s : ∀ (x3 : Int) (x4 : Int) (u : iST), I x3 x4 u → pv_10_matches_24b I Q x3 x4 u) (h : I x3 x4 u) : pv_10_matches_24 Q x3 x4 u := ⟨I, s, h⟩
theorem mn_v_10_matches_24 {Q1 Q2 : Int → iST → Prop}  {x3 : Int} {x4 : Int} {u : iST} (hQ : ∀ r0 r1, Q1 r0 r1 → Q2 r0 r1) : pv_10_matches_24 Q1 x3 x4 u → pv_10_matches_24 Q2 x3 x4 u := fun ⟨R, s, h⟩ => ⟨R, fun r0 r1 r2 a => mn_v_10_matches_24b (fun r0 r1 r2 a => a) hQ (s r0 r1 r2 a), h⟩
theorem un_v_10_matches_24  {Q : Int → iST → Prop} {x3 : Int} {x4 : Int} {u : iST} : pv_10_matches_24 Q x3 x4 u → pv_10_matches_24b (fun x3 x4 u => pv_10_matches_24 Q x3 x4 u) Q x3 x4 u := fun ⟨R, s, h⟩ => mn_v_10_matches_24b (fun r0 r1 r2 a => ⟨R, s, a⟩) (fun _ _ h => h) (s _ _ _ h)
theorem fo_v_10_matches_24  {Q : Int → iST → Prop} {x3 : Int} {x4 : Int} {u : iST} : pv_10_matches_24b (fun x3 x4 u => pv_10_matches_24 Q x3 x4 u) Q x3 x4 u → pv_10_matches_24 Q x3 x4 u := fun h => ⟨fun x3 x4 u => pv_10_matches_24b (fun x3 x4 u => pv_10_matches_24 Q x3 x4 u) Q x3 x4 u, fun r0 r1 r2 a => mn_v_10_matches_24b (fun r0 r1 r2 a => un_v_10_matches_24 a) (fun _ _ h => h) a, h⟩
theorem wp_v_10_matches_24 {Q1 Q2 : Int → iST → Prop}  {x3 : Int} {x4 : Int} {u : iST} (hQ : ∀ r0 r1, Q1 r0 r1 → Q2 r0 r1) : v_10_matches_24 Q1 x3 x4 u → pv_10_matches_24 Q2 x3 x4 u := fun a => a (fun x3 x4 u => pv_10_matches_24 Q2 x3 x4 u) (fun x3 x4 u b => fo_v_10_matches_24 (wp_v_10_matches_24b (fun r0 r1 r2 a => a) hQ b))
def pv_10_matches (a0 : Int) (a1 : Int) (Q : Int → iST → Prop) (u : iST) : Prop :=
  sw (iI u 39 0) (fun u => 
  bdp 0 128 (sw (iA u 41 0 a0) (fun u => 
  bdp 0 128 (sw (iA u 42 0 a1) (fun u => 
  pv_10_matches_24 Q 1 0 u)))))
theorem cj_v_10_matches {Q1 Q2 Q3 : Int → iST → Prop}  {a0 : Int} {a1 : Int} {u : iST} (hQ : ∀ r0 r1, Q1 r0 r1 → Q2 r0 r1 → Q3 r0 r1) : v_10_matches a0 a1 Q1 u → pv_10_matches a0 a1 Q2 u → v_10_matches a0 a1 Q3 u := (sw_cj fun _ => (bd_cj (sw_cj fun _ => (bd_cj (sw_cj fun _ => (cj_v_10_matches_24  hQ))))))
theorem mn_v_10_matches {Q1 Q2 : Int → iST → Prop}  {a0 : Int} {a1 : Int} {u : iST} (hQ : ∀ r0 r1, Q1 r0 r1 → Q2 r0 r1) : pv_10_matches a0 a1 Q1 u → pv_10_matches a0 a1 Q2 u := (sw_mn fun _ => (bd_mn (sw_mn fun _ => (bd_mn (sw_mn fun _ => (mn_v_10_matches_24  hQ))))))
theorem wp_v_10_matches {Q1 Q2 : Int → iST → Prop}  {a0 : Int} {a1 : Int} {u : iST} (hQ : ∀ r0 r1, Q1 r0 r1 → Q2 r0 r1) : v_10_matches a0 a1 Q1 u → pv_10_matches a0 a1 Q2 u := (sw_wp fun _ => (bd_wp (sw_wp fun _ => (bd_wp (sw_wp fun _ => (wp_v_10_matches_24  hQ))))))
def pv_6_seek_104 (Q : iST → Prop) (x1 : Int) (u : iST) : Prop :=
  bdp 3 17 (sw (iA u 51 (17 * x1 + 3) 16) (fun u => 
  Q u))
theorem cj_v_6_seek_104 {Q1 Q2 Q3 : iST → Prop}  {x1 : Int} {u : iST} (hQ : ∀ r0, Q1 r0 → Q2 r0 → Q3 r0) : v_6_seek_104 Q1 x1 u → pv_6_seek_104 Q2 x1 u → v_6_seek_104 Q3 x1 u := (bd_cj (sw_cj fun _ => (hQ _)))
theorem mn_v_6_seek_104 {Q1 Q2 : iST → Prop}  {x1 : Int} {u : iST} (hQ : ∀ r0, Q1 r0 → Q2 r0) : pv_6_seek_104 Q1 x1 u → pv_6_seek_104 Q2 x1 u := (bd_mn (sw_mn fun _ => (hQ _)))
theorem wp_v_6_seek_104 {Q1 Q2 : iST → Prop}  {x1 : Int} {u : iST} (hQ : ∀ r0, Q1 r0 → Q2 r0) : v_6_seek_104 Q1 x1 u → pv_6_seek_104 Q2 x1 u := (bd_wp (sw_wp fun _ => (hQ _)))
def pv_6_seek_96 (Q : iST → Prop) (y0 : Int) (y1 : Int) (y2 : Int) (u : iST) : Prop :=
  bdp y1 17 (sw (iA u 51 (17 * y0 + y1) y2) (fun u => 
  Q u))
theorem cj_v_6_seek_96 {Q1 Q2 Q3 : iST → Prop}  {y0 : Int} {y1 : Int} {y2 : Int} {u : iST} (hQ : ∀ r0, Q1 r0 → Q2 r0 → Q3 r0) : v_6_seek_96 Q1 y0 y1 y2 u → pv_6_seek_96 Q2 y0 y1 y2 u → v_6_seek_96 Q3 y0 y1 y2 u := (bd_cj (sw_cj fun _ => (hQ _)))
theorem mn_v_6_seek_96 {Q1 Q2 : iST → Prop}  {y0 : Int} {y1 : Int} {y2 : Int} {u : iST} (hQ : ∀ r0, Q1 r0 → Q2 r0) : pv_6_seek_96 Q1 y0 y1 y2 u → pv_6_seek_96 Q2 y0 y1 y2 u := (bd_mn (sw_mn fun _ => (hQ _)))
theorem wp_v_6_seek_96 {Q1 Q2 : iST → Prop}  {y0 : Int} {y1 : Int} {y2 : Int} {u : iST} (hQ : ∀ r0, Q1 r0 → Q2 r0) : v_6_seek_96 Q1 y0 y1 y2 u → pv_6_seek_96 Q2 y0 y1 y2 u := (bd_wp (sw_wp fun _ => (hQ _)))
def pv_6_seek_5b (R5 : Int → Int → iST → Prop) (Q : iST → Prop) (x1 : Int) (x2 : Int) (u : iST) : Prop :=
  br (x2 < 0) (
    pv_6_seek_104 Q x1 u) (
    rd (u.1 32) (fun v2 => 
    br (v2 ≠ 0) (
      pv_6_seek_104 Q x1 u) (
      bdp 1 17 (rd (u.2.1 51 (17 * x1 + 1)) (fun v3 => 
      pv_0_canLook x2 v3 (fun v4 u => 
      br (v4 = 0) (
        ovp (x2 + (-1)) (
        R5 x1 (x2 + (-1)) u)) (
        bdp x2 60 (rd (u.2.1 7 x2) (fun v6 => 
        bdp 5 17 (rd (u.2.1 51 (17 * x1 + 5)) (fun v7 => 
        pv_10_matches v6 v7 (fun v8 u => 
        br (v8 = 0) (
          ovp (x2 + (-1)) (
          R5 x1 (x2 + (-1)) u)) (
          pv_7_step (fun v10 u => 
          br (v10 = 0) (
            ovp (x2 + (-1)) (
            R5 x1 (x2 + (-1)) u)) (
            bdp 8 17 (sw (iA u 51 (17 * x1 + 8) x2) (fun u => 
            bdp 9 17 (sw (iA u 51 (17 * x1 + 9) 0) (fun u => 
            bdp x2 60 (rz (u.2.1 11 x2) (fun v12 => 
            br (v12 = 0) (
              pv_6_seek_96 Q x1 3 14 u) (
              pv_6_seek_96 Q x1 3 13 u))))))))) u)) u)))))) u)))))
theorem cj_v_6_seek_5b {Q1 Q2 Q3 : iST → Prop} {R51 R52 R53 : Int → Int → iST → Prop} {x1 : Int} {x2 : Int} {u : iST} (hR5 : ∀ r0 r1 r2, R51 r0 r1 r2 → R52 r0 r1 r2 → R53 r0 r1 r2) (hQ : ∀ r0, Q1 r0 → Q2 r0 → Q3 r0) : v_6_seek_5b R51 Q1 x1 x2 u → pv_6_seek_5b R52 Q2 x1 x2 u → v_6_seek_5b R53 Q3 x1 x2 u := (br_cj (cj_v_6_seek_104  hQ) (rd_cj fun _ => (br_cj (cj_v_6_seek_104  hQ) (bd_cj (rd_cj fun _ => (cj_v_0_canLook (fun _ _ => (br_cj (ov_cj (hR5 _ _ _)) (bd_cj (rd_cj fun _ => (bd_cj (rd_cj fun _ => (cj_v_10_matches (fun _ _ => (br_cj (ov_cj (hR5 _ _ _)) (cj_v_7_step (fun _ _ => (br_cj (ov_cj (hR5 _ _ _)) (bd_cj (sw_cj fun _ => (bd_cj (sw_cj fun _ => (bd_cj (rz_cj fun _ => (br_cj (cj_v_6_seek_96  hQ) (cj_v_6_seek_96  hQ))))))))))))))))))))))))))
theorem mn_v_6_seek_5b {Q1 Q2 : iST → Prop} {R51 R52 : Int → Int → iST → Prop} {x1 : Int} {x2 : Int} {u : iST} (hR5 : ∀ r0 r1 r2, R51 r0 r1 r2 → R52 r0 r1 r2) (hQ : ∀ r0, Q1 r0 → Q2 r0) : pv_6_seek_5b R51 Q1 x1 x2 u → pv_6_seek_5b R52 Q2 x1 x2 u := (br_mn (mn_v_6_seek_104  hQ) (rd_mn fun _ => (br_mn (mn_v_6_seek_104  hQ) (bd_mn (rd_mn fun _ => (mn_v_0_canLook (fun _ _ => (br_mn (ov_mn (hR5 _ _ _)) (bd_mn (rd_mn fun _ => (bd_mn (rd_mn fun _ => (mn_v_10_matches (fun _ _ => (br_mn (ov_mn (hR5 _ _ _)) (mn_v_7_step (fun _ _ => (br_mn (ov_mn (hR5 _ _ _)) (bd_mn (sw_mn fun _ => (bd_mn (sw_mn fun _ => (bd_mn (rz_mn fun _ => (br_mn (mn_v_6_seek_96  hQ) (mn_v_6_seek_96  hQ))))))))))))))))))))))))))
theorem wp_v_6_seek_5b {Q1 Q2 : iST → Prop} {R51 R52 : Int → Int → iST → Prop} {x1 : Int} {x2 : Int} {u : iST} (hR5 : ∀ r0 r1 r2, R51 r0 r1 r2 → R52 r0 r1 r2) (hQ : ∀ r0, Q1 r0 → Q2 r0) : v_6_seek_5b R51 Q1 x1 x2 u → pv_6_seek_5b R52 Q2 x1 x2 u := (br_wp (wp_v_6_seek_104  hQ) (rd_wp fun _ => (br_wp (wp_v_6_seek_104  hQ) (bd_wp (rd_wp fun _ => (wp_v_0_canLook (fun _ _ => (br_wp (ov_wp (hR5 _ _ _)) (bd_wp (rd_wp fun _ => (bd_wp (rd_wp fun _ => (wp_v_10_matches (fun _ _ => (br_wp (ov_wp (hR5 _ _ _)) (wp_v_7_step (fun _ _ => (br_wp (ov_wp (hR5 _ _ _)) (bd_wp (sw_wp fun _ => (bd_wp (sw_wp fun _ => (bd_wp (rz_wp fun _ => (br_wp (wp_v_6_seek_96  hQ) (wp_v_6_seek_96  hQ))))))))))))))))))))))))))
def pv_6_seek_5 (Q : iST → Prop) (x1 : Int) (x2 : Int) (u : iST) : Prop := ∃ R5 : Int → Int → iST → Prop, (∀ (x1 : Int) (x2 : Int) (u : iST), R5 x1 x2 u → pv_6_seek_5b R5 Q x1 x2 u) ∧ R5 x1 x2 u
theorem cj_v_6_seek_5 {Q1 Q2 Q3 : iST → Prop}  {x1 : Int} {x2 : Int} {u : iST} (hQ : ∀ r0, Q1 r0 → Q2 r0 → Q3 r0) : v_6_seek_5 Q1 x1 x2 u → pv_6_seek_5 Q2 x1 x2 u → v_6_seek_5 Q3 x1 x2 u := by
  intro a b R3 c3
  obtain ⟨R2, c2, b2⟩ := b
  exact a (fun r0 r1 r2 => R2 r0 r1 r2 → R3 r0 r1 r2) (fun r0 r1 r2 a b => c3 r0 r1 r2 (cj_v_6_seek_5b (fun r0 r1 r2 a b => a b) hQ a (c2 r0 r1 r2 b))) b2
theorem pv_6_seek_5_i  {Q : iST → Prop} {x1 : Int} {x2 : Int} {u : iST} (I : Int → Int → iST → Prop) (s : ∀ (x1 : Int) (x2 : Int) (u : iST), I x1 x2 u → pv_6_seek_5b I Q x1 x2 u) (h : I x1 x2 u) : pv_6_seek_5 Q x1 x2 u := ⟨I, s, h⟩
theorem mn_v_6_seek_5 {Q1 Q2 : iST → Prop}  {x1 : Int} {x2 : Int} {u : iST} (hQ : ∀ r0, Q1 r0 → Q2 r0) : pv_6_seek_5 Q1 x1 x2 u → pv_6_seek_5 Q2 x1 x2 u := fun ⟨R, s, h⟩ => ⟨R, fun r0 r1 r2 a => mn_v_6_seek_5b (fun r0 r1 r2 a => a) hQ (s r0 r1 r2 a), h⟩
theorem un_v_6_seek_5  {Q : iST → Prop} {x1 : Int} {x2 : Int} {u : iST} : pv_6_seek_5 Q x1 x2 u → pv_6_seek_5b (fun x1 x2 u => pv_6_seek_5 Q x1 x2 u) Q x1 x2 u := fun ⟨R, s, h⟩ => mn_v_6_seek_5b (fun r0 r1 r2 a => ⟨R, s, a⟩) (fun _ h => h) (s _ _ _ h)
theorem fo_v_6_seek_5  {Q : iST → Prop} {x1 : Int} {x2 : Int} {u : iST} : pv_6_seek_5b (fun x1 x2 u => pv_6_seek_5 Q x1 x2 u) Q x1 x2 u → pv_6_seek_5 Q x1 x2 u := fun h => ⟨fun x1 x2 u => pv_6_seek_5b (fun x1 x2 u => pv_6_seek_5 Q x1 x2 u) Q x1 x2 u, fun r0 r1 r2 a => mn_v_6_seek_5b (fun r0 r1 r2 a => un_v_6_seek_5 a) (fun _ h => h) a, h⟩
theorem wp_v_6_seek_5 {Q1 Q2 : iST → Prop}  {x1 : Int} {x2 : Int} {u : iST} (hQ : ∀ r0, Q1 r0 → Q2 r0) : v_6_seek_5 Q1 x1 x2 u → pv_6_seek_5 Q2 x1 x2 u := fun a => a (fun x1 x2 u => pv_6_seek_5 Q2 x1 x2 u) (fun x1 x2 u b => fo_v_6_seek_5 (wp_v_6_seek_5b (fun r0 r1 r2 a => a) hQ b))
def pv_6_seek (a0 : Int) (Q : iST → Prop) (u : iST) : Prop :=
  bdp 8 17 (rd (u.2.1 51 (17 * a0 + 8)) (fun v1 => 
  pv_6_seek_5 Q a0 v1 u))
theorem cj_v_6_seek {Q1 Q2 Q3 : iST → Prop}  {a0 : Int} {u : iST} (hQ : ∀ r0, Q1 r0 → Q2 r0 → Q3 r0) : v_6_seek a0 Q1 u → pv_6_seek a0 Q2 u → v_6_seek a0 Q3 u := (bd_cj (rd_cj fun _ => (cj_v_6_seek_5  hQ)))
theorem mn_v_6_seek {Q1 Q2 : iST → Prop}  {a0 : Int} {u : iST} (hQ : ∀ r0, Q1 r0 → Q2 r0) : pv_6_seek a0 Q1 u → pv_6_seek a0 Q2 u := (bd_mn (rd_mn fun _ => (mn_v_6_seek_5  hQ)))
theorem wp_v_6_seek {Q1 Q2 : iST → Prop}  {a0 : Int} {u : iST} (hQ : ∀ r0, Q1 r0 → Q2 r0) : v_6_seek a0 Q1 u → pv_6_seek a0 Q2 u := (bd_wp (rd_wp fun _ => (wp_v_6_seek_5  hQ)))
def pv_9_clear (th : Int) (Q : iST → Prop) (u : iST) : Prop :=
  sw (iA u 54 th 0) (fun u => 
  Q u)
theorem cj_v_9_clear {Q1 Q2 Q3 : iST → Prop}  {th : Int} {u : iST} (hQ : ∀ r0, Q1 r0 → Q2 r0 → Q3 r0) : v_9_clear th Q1 u → pv_9_clear th Q2 u → v_9_clear th Q3 u := (sw_cj fun _ => (hQ _))
theorem mn_v_9_clear {Q1 Q2 : iST → Prop}  {th : Int} {u : iST} (hQ : ∀ r0, Q1 r0 → Q2 r0) : pv_9_clear th Q1 u → pv_9_clear th Q2 u := (sw_mn fun _ => (hQ _))
theorem wp_v_9_clear {Q1 Q2 : iST → Prop}  {th : Int} {u : iST} (hQ : ∀ r0, Q1 r0 → Q2 r0) : v_9_clear th Q1 u → pv_9_clear th Q2 u := (sw_wp fun _ => (hQ _))
def pv_9_put (th : Int) (a0 : Int) (Q : iST → Prop) (u : iST) : Prop :=
  rd (u.2.1 54 th) (fun v1 => 
  br ((slenI th) ≤ v1) (
    Q u) (
    rd (u.2.1 54 th) (fun v2 => 
    hcp a0 (bdp v2 (slenI th) (sw (iA u 55 (2000 * th + v2) a0) (fun u => 
    rd (u.2.1 54 th) (fun v3 => 
    ovp (v3 + 1) (
    sw (iA u 54 th (v3 + 1)) (fun u => 
    Q u)))))))))
theorem cj_v_9_put {Q1 Q2 Q3 : iST → Prop}  {th : Int} {a0 : Int} {u : iST} (hQ : ∀ r0, Q1 r0 → Q2 r0 → Q3 r0) : v_9_put th a0 Q1 u → pv_9_put th a0 Q2 u → v_9_put th a0 Q3 u := (rd_cj fun _ => (br_cj (hQ _) (rd_cj fun _ => (hc_cj (bd_cj (sw_cj fun _ => (rd_cj fun _ => (ov_cj (sw_cj fun _ => (hQ _))))))))))
theorem mn_v_9_put {Q1 Q2 : iST → Prop}  {th : Int} {a0 : Int} {u : iST} (hQ : ∀ r0, Q1 r0 → Q2 r0) : pv_9_put th a0 Q1 u → pv_9_put th a0 Q2 u := (rd_mn fun _ => (br_mn (hQ _) (rd_mn fun _ => (hc_mn (bd_mn (sw_mn fun _ => (rd_mn fun _ => (ov_mn (sw_mn fun _ => (hQ _))))))))))
theorem wp_v_9_put {Q1 Q2 : iST → Prop}  {th : Int} {a0 : Int} {u : iST} (hQ : ∀ r0, Q1 r0 → Q2 r0) : v_9_put th a0 Q1 u → pv_9_put th a0 Q2 u := (rd_wp fun _ => (br_wp (hQ _) (rd_wp fun _ => (hc_wp (bd_wp (sw_wp fun _ => (rd_wp fun _ => (ov_wp (sw_wp fun _ => (hQ _))))))))))
def pv_7_cellOf (a0 : Int) (Q : Int → iST → Prop) (u : iST) : Prop :=
  br (a0 < 0) (
    Q 4611686018427387904 u) (
    rd (u.1 29) (fun v1 => 
    br (v1 ≤ a0) (
      Q 4611686018427387904 u) (
      bdp a0 160000 (rl (u.2.2 a0) (fun v2 => 
      Q v2 u)))))
theorem cj_v_7_cellOf {Q1 Q2 Q3 : Int → iST → Prop}  {a0 : Int} {u : iST} (hQ : ∀ r0 r1, Q1 r0 r1 → Q2 r0 r1 → Q3 r0 r1) : v_7_cellOf a0 Q1 u → pv_7_cellOf a0 Q2 u → v_7_cellOf a0 Q3 u := (br_cj (hQ _ _) (rd_cj fun _ => (br_cj (hQ _ _) (bd_cj (rl_cj fun _ => (hQ _ _))))))
theorem mn_v_7_cellOf {Q1 Q2 : Int → iST → Prop}  {a0 : Int} {u : iST} (hQ : ∀ r0 r1, Q1 r0 r1 → Q2 r0 r1) : pv_7_cellOf a0 Q1 u → pv_7_cellOf a0 Q2 u := (br_mn (hQ _ _) (rd_mn fun _ => (br_mn (hQ _ _) (bd_mn (rl_mn fun _ => (hQ _ _))))))
theorem wp_v_7_cellOf {Q1 Q2 : Int → iST → Prop}  {a0 : Int} {u : iST} (hQ : ∀ r0 r1, Q1 r0 r1 → Q2 r0 r1) : v_7_cellOf a0 Q1 u → pv_7_cellOf a0 Q2 u := (br_wp (hQ _ _) (rd_wp fun _ => (br_wp (hQ _ _) (bd_wp (rl_wp fun _ => (hQ _ _))))))
def pv_9_putAtom_72b (R72 : Int → Int → Int → Int → Int → Int → iST → Prop) (Q : iST → Prop) (x0 : Int) (x3 : Int) (x4 : Int) (x5 : Int) (x7 : Int) (x8 : Int) (u : iST) : Prop :=
  br (x8 < 0) (
    rd (u.2.1 54 x0) (fun v5 => 
    ovp (v5 + x7) (
    rd (if (v5 + x7) < (slenI x0) then (v5 + x7) else (slenI x0)) (fun v7 => 
    sw (iA u 54 x0 v7) (fun u => 
    Q u))))) (
    (0 : Int) < x4 ∧ (
    rd (wl2i (Int.tmod x5 x4)) (fun v10 => 
    (0 : Int) < x4 ∧ (
    rd (u.2.1 54 x0) (fun v13 => 
    ovp (v13 + x8) (
    br ((slenI x0) ≤ (v13 + x8)) (
      ovp (x8 + (-1)) (
      R72 x0 x3 x4 (Int.tdiv x5 x4) x7 (x8 + (-1)) u)) (
      rd (u.2.1 54 x0) (fun v16 => 
      ovp (v16 + x8) (
      br (x3 = 0) (
        bdp v10 47 (rk v10 (fun v18 => 
        hcp v18 (bdp (v16 + x8) (slenI x0) (sw (iA u 55 (2000 * x0 + (v16 + x8)) v18) (fun u => 
        ovp (x8 + (-1)) (
        R72 x0 x3 x4 (Int.tdiv x5 x4) x7 (x8 + (-1)) u))))))) (
        ovp (48 + v10) (
        rd (wi2c (48 + v10)) (fun v21 => 
        hcp v21 (bdp (v16 + x8) (slenI x0) (sw (iA u 55 (2000 * x0 + (v16 + x8)) v21) (fun u => 
        ovp (x8 + (-1)) (
        R72 x0 x3 x4 (Int.tdiv x5 x4) x7 (x8 + (-1)) u))))))))))))))))
theorem cj_v_9_putAtom_72b {Q1 Q2 Q3 : iST → Prop} {R721 R722 R723 : Int → Int → Int → Int → Int → Int → iST → Prop} {x0 : Int} {x3 : Int} {x4 : Int} {x5 : Int} {x7 : Int} {x8 : Int} {u : iST} (hR72 : ∀ r0 r1 r2 r3 r4 r5 r6, R721 r0 r1 r2 r3 r4 r5 r6 → R722 r0 r1 r2 r3 r4 r5 r6 → R723 r0 r1 r2 r3 r4 r5 r6) (hQ : ∀ r0, Q1 r0 → Q2 r0 → Q3 r0) : v_9_putAtom_72b R721 Q1 x0 x3 x4 x5 x7 x8 u → pv_9_putAtom_72b R722 Q2 x0 x3 x4 x5 x7 x8 u → v_9_putAtom_72b R723 Q3 x0 x3 x4 x5 x7 x8 u := (br_cj (rd_cj fun _ => (ov_cj (rd_cj fun _ => (sw_cj fun _ => (hQ _))))) (an_cj (rd_cj fun _ => (an_cj (rd_cj fun _ => (ov_cj (br_cj (ov_cj (hR72 _ _ _ _ _ _ _)) (rd_cj fun _ => (ov_cj (br_cj (bd_cj (rk_cj fun _ => (hc_cj (bd_cj (sw_cj fun _ => (ov_cj (hR72 _ _ _ _ _ _ _))))))) (ov_cj (rd_cj fun _ => (hc_cj (bd_cj (sw_cj fun _ => (ov_cj (hR72 _ _ _ _ _ _ _)))))))))))))))))
theorem mn_v_9_putAtom_72b {Q1 Q2 : iST → Prop} {R721 R722 : Int → Int → Int → Int → Int → Int → iST → Prop} {x0 : Int} {x3 : Int} {x4 : Int} {x5 : Int} {x7 : Int} {x8 : Int} {u : iST} (hR72 : ∀ r0 r1 r2 r3 r4 r5 r6, R721 r0 r1 r2 r3 r4 r5 r6 → R722 r0 r1 r2 r3 r4 r5 r6) (hQ : ∀ r0, Q1 r0 → Q2 r0) : pv_9_putAtom_72b R721 Q1 x0 x3 x4 x5 x7 x8 u → pv_9_putAtom_72b R722 Q2 x0 x3 x4 x5 x7 x8 u := (br_mn (rd_mn fun _ => (ov_mn (rd_mn fun _ => (sw_mn fun _ => (hQ _))))) (an_mn (rd_mn fun _ => (an_mn (rd_mn fun _ => (ov_mn (br_mn (ov_mn (hR72 _ _ _ _ _ _ _)) (rd_mn fun _ => (ov_mn (br_mn (bd_mn (rk_mn fun _ => (hc_mn (bd_mn (sw_mn fun _ => (ov_mn (hR72 _ _ _ _ _ _ _))))))) (ov_mn (rd_mn fun _ => (hc_mn (bd_mn (sw_mn fun _ => (ov_mn (hR72 _ _ _ _ _ _ _)))))))))))))))))
theorem wp_v_9_putAtom_72b {Q1 Q2 : iST → Prop} {R721 R722 : Int → Int → Int → Int → Int → Int → iST → Prop} {x0 : Int} {x3 : Int} {x4 : Int} {x5 : Int} {x7 : Int} {x8 : Int} {u : iST} (hR72 : ∀ r0 r1 r2 r3 r4 r5 r6, R721 r0 r1 r2 r3 r4 r5 r6 → R722 r0 r1 r2 r3 r4 r5 r6) (hQ : ∀ r0, Q1 r0 → Q2 r0) : v_9_putAtom_72b R721 Q1 x0 x3 x4 x5 x7 x8 u → pv_9_putAtom_72b R722 Q2 x0 x3 x4 x5 x7 x8 u := (br_wp (rd_wp fun _ => (ov_wp (rd_wp fun _ => (sw_wp fun _ => (hQ _))))) (an_wp (rd_wp fun _ => (an_wp (rd_wp fun _ => (ov_wp (br_wp (ov_wp (hR72 _ _ _ _ _ _ _)) (rd_wp fun _ => (ov_wp (br_wp (bd_wp (rk_wp fun _ => (hc_wp (bd_wp (sw_wp fun _ => (ov_wp (hR72 _ _ _ _ _ _ _))))))) (ov_wp (rd_wp fun _ => (hc_wp (bd_wp (sw_wp fun _ => (ov_wp (hR72 _ _ _ _ _ _ _)))))))))))))))))
def pv_9_putAtom_72 (Q : iST → Prop) (x0 : Int) (x3 : Int) (x4 : Int) (x5 : Int) (x7 : Int) (x8 : Int) (u : iST) : Prop := ∃ R72 : Int → Int → Int → Int → Int → Int → iST → Prop, (∀ (x0 : Int) (x3 : Int) (x4 : Int) (x5 : Int) (x7 : Int) (x8 : Int) (u : iST), R72 x0 x3 x4 x5 x7 x8 u → pv_9_putAtom_72b R72 Q x0 x3 x4 x5 x7 x8 u) ∧ R72 x0 x3 x4 x5 x7 x8 u
theorem cj_v_9_putAtom_72 {Q1 Q2 Q3 : iST → Prop}  {x0 : Int} {x3 : Int} {x4 : Int} {x5 : Int} {x7 : Int} {x8 : Int} {u : iST} (hQ : ∀ r0, Q1 r0 → Q2 r0 → Q3 r0) : v_9_putAtom_72 Q1 x0 x3 x4 x5 x7 x8 u → pv_9_putAtom_72 Q2 x0 x3 x4 x5 x7 x8 u → v_9_putAtom_72 Q3 x0 x3 x4 x5 x7 x8 u := by
  intro a b R3 c3
  obtain ⟨R2, c2, b2⟩ := b
  exact a (fun r0 r1 r2 r3 r4 r5 r6 => R2 r0 r1 r2 r3 r4 r5 r6 → R3 r0 r1 r2 r3 r4 r5 r6) (fun r0 r1 r2 r3 r4 r5 r6 a b => c3 r0 r1 r2 r3 r4 r5 r6 (cj_v_9_putAtom_72b (fun r0 r1 r2 r3 r4 r5 r6 a b => a b) hQ a (c2 r0 r1 r2 r3 r4 r5 r6 b))) b2
theorem pv_9_putAtom_72_i  {Q : iST → Prop} {x0 : Int} {x3 : Int} {x4 : Int} {x5 : Int} {x7 : Int} {x8 : Int} {u : iST} (I : Int → Int → Int → Int → Int → Int → iST → Prop) (s : ∀ (x0 : Int) (x3 : Int) (x4 : Int) (x5 : Int) (x7 : Int) (x8 : Int) (u : iST), I x0 x3 x4 x5 x7 x8 u → pv_9_putAtom_72b I Q x0 x3 x4 x5 x7 x8 u) (h : I x0 x3 x4 x5 x7 x8 u) : pv_9_putAtom_72 Q x0 x3 x4 x5 x7 x8 u := ⟨I, s, h⟩
theorem mn_v_9_putAtom_72 {Q1 Q2 : iST → Prop}  {x0 : Int} {x3 : Int} {x4 : Int} {x5 : Int} {x7 : Int} {x8 : Int} {u : iST} (hQ : ∀ r0, Q1 r0 → Q2 r0) : pv_9_putAtom_72 Q1 x0 x3 x4 x5 x7 x8 u → pv_9_putAtom_72 Q2 x0 x3 x4 x5 x7 x8 u := fun ⟨R, s, h⟩ => ⟨R, fun r0 r1 r2 r3 r4 r5 r6 a => mn_v_9_putAtom_72b (fun r0 r1 r2 r3 r4 r5 r6 a => a) hQ (s r0 r1 r2 r3 r4 r5 r6 a), h⟩
theorem un_v_9_putAtom_72  {Q : iST → Prop} {x0 : Int} {x3 : Int} {x4 : Int} {x5 : Int} {x7 : Int} {x8 : Int} {u : iST} : pv_9_putAtom_72 Q x0 x3 x4 x5 x7 x8 u → pv_9_putAtom_72b (fun x0 x3 x4 x5 x7 x8 u => pv_9_putAtom_72 Q x0 x3 x4 x5 x7 x8 u) Q x0 x3 x4 x5 x7 x8 u := fun ⟨R, s, h⟩ => mn_v_9_putAtom_72b (fun r0 r1 r2 r3 r4 r5 r6 a => ⟨R, s, a⟩) (fun _ h => h) (s _ _ _ _ _ _ _ h)
theorem fo_v_9_putAtom_72  {Q : iST → Prop} {x0 : Int} {x3 : Int} {x4 : Int} {x5 : Int} {x7 : Int} {x8 : Int} {u : iST} : pv_9_putAtom_72b (fun x0 x3 x4 x5 x7 x8 u => pv_9_putAtom_72 Q x0 x3 x4 x5 x7 x8 u) Q x0 x3 x4 x5 x7 x8 u → pv_9_putAtom_72 Q x0 x3 x4 x5 x7 x8 u := fun h => ⟨fun x0 x3 x4 x5 x7 x8 u => pv_9_putAtom_72b (fun x0 x3 x4 x5 x7 x8 u => pv_9_putAtom_72 Q x0 x3 x4 x5 x7 x8 u) Q x0 x3 x4 x5 x7 x8 u, fun r0 r1 r2 r3 r4 r5 r6 a => mn_v_9_putAtom_72b (fun r0 r1 r2 r3 r4 r5 r6 a => un_v_9_putAtom_72 a) (fun _ h => h) a, h⟩
theorem wp_v_9_putAtom_72 {Q1 Q2 : iST → Prop}  {x0 : Int} {x3 : Int} {x4 : Int} {x5 : Int} {x7 : Int} {x8 : Int} {u : iST} (hQ : ∀ r0, Q1 r0 → Q2 r0) : v_9_putAtom_72 Q1 x0 x3 x4 x5 x7 x8 u → pv_9_putAtom_72 Q2 x0 x3 x4 x5 x7 x8 u := fun a => a (fun x0 x3 x4 x5 x7 x8 u => pv_9_putAtom_72 Q2 x0 x3 x4 x5 x7 x8 u) (fun x0 x3 x4 x5 x7 x8 u b => fo_v_9_putAtom_72 (wp_v_9_putAtom_72b (fun r0 r1 r2 r3 r4 r5 r6 a => a) hQ b))
def pv_9_putAtom_45b (R45 : Int → Int → Int → Int → Int → Int → iST → Prop) (Q : iST → Prop) (x0 : Int) (x3 : Int) (x4 : Int) (x5 : Int) (x7 : Int) (x8 : Int) (u : iST) : Prop :=
  br (x8 ≤ 0) (
    ovp (x7 - 1) (
    pv_9_putAtom_72 Q x0 x3 x4 x5 x7 (x7 - 1) u)) (
    ovp (x7 + 1) (
    (0 : Int) < x4 ∧ (
    R45 x0 x3 x4 x5 (x7 + 1) (Int.tdiv x8 x4) u)))
theorem cj_v_9_putAtom_45b {Q1 Q2 Q3 : iST → Prop} {R451 R452 R453 : Int → Int → Int → Int → Int → Int → iST → Prop} {x0 : Int} {x3 : Int} {x4 : Int} {x5 : Int} {x7 : Int} {x8 : Int} {u : iST} (hR45 : ∀ r0 r1 r2 r3 r4 r5 r6, R451 r0 r1 r2 r3 r4 r5 r6 → R452 r0 r1 r2 r3 r4 r5 r6 → R453 r0 r1 r2 r3 r4 r5 r6) (hQ : ∀ r0, Q1 r0 → Q2 r0 → Q3 r0) : v_9_putAtom_45b R451 Q1 x0 x3 x4 x5 x7 x8 u → pv_9_putAtom_45b R452 Q2 x0 x3 x4 x5 x7 x8 u → v_9_putAtom_45b R453 Q3 x0 x3 x4 x5 x7 x8 u := (br_cj (ov_cj (cj_v_9_putAtom_72  hQ)) (ov_cj (an_cj (hR45 _ _ _ _ _ _ _))))
theorem mn_v_9_putAtom_45b {Q1 Q2 : iST → Prop} {R451 R452 : Int → Int → Int → Int → Int → Int → iST → Prop} {x0 : Int} {x3 : Int} {x4 : Int} {x5 : Int} {x7 : Int} {x8 : Int} {u : iST} (hR45 : ∀ r0 r1 r2 r3 r4 r5 r6, R451 r0 r1 r2 r3 r4 r5 r6 → R452 r0 r1 r2 r3 r4 r5 r6) (hQ : ∀ r0, Q1 r0 → Q2 r0) : pv_9_putAtom_45b R451 Q1 x0 x3 x4 x5 x7 x8 u → pv_9_putAtom_45b R452 Q2 x0 x3 x4 x5 x7 x8 u := (br_mn (ov_mn (mn_v_9_putAtom_72  hQ)) (ov_mn (an_mn (hR45 _ _ _ _ _ _ _))))
theorem wp_v_9_putAtom_45b {Q1 Q2 : iST → Prop} {R451 R452 : Int → Int → Int → Int → Int → Int → iST → Prop} {x0 : Int} {x3 : Int} {x4 : Int} {x5 : Int} {x7 : Int} {x8 : Int} {u : iST} (hR45 : ∀ r0 r1 r2 r3 r4 r5 r6, R451 r0 r1 r2 r3 r4 r5 r6 → R452 r0 r1 r2 r3 r4 r5 r6) (hQ : ∀ r0, Q1 r0 → Q2 r0) : v_9_putAtom_45b R451 Q1 x0 x3 x4 x5 x7 x8 u → pv_9_putAtom_45b R452 Q2 x0 x3 x4 x5 x7 x8 u := (br_wp (ov_wp (wp_v_9_putAtom_72  hQ)) (ov_wp (an_wp (hR45 _ _ _ _ _ _ _))))
def pv_9_putAtom_45 (Q : iST → Prop) (x0 : Int) (x3 : Int) (x4 : Int) (x5 : Int) (x7 : Int) (x8 : Int) (u : iST) : Prop := ∃ R45 : Int → Int → Int → Int → Int → Int → iST → Prop, (∀ (x0 : Int) (x3 : Int) (x4 : Int) (x5 : Int) (x7 : Int) (x8 : Int) (u : iST), R45 x0 x3 x4 x5 x7 x8 u → pv_9_putAtom_45b R45 Q x0 x3 x4 x5 x7 x8 u) ∧ R45 x0 x3 x4 x5 x7 x8 u
theorem cj_v_9_putAtom_45 {Q1 Q2 Q3 : iST → Prop}  {x0 : Int} {x3 : Int} {x4 : Int} {x5 : Int} {x7 : Int} {x8 : Int} {u : iST} (hQ : ∀ r0, Q1 r0 → Q2 r0 → Q3 r0) : v_9_putAtom_45 Q1 x0 x3 x4 x5 x7 x8 u → pv_9_putAtom_45 Q2 x0 x3 x4 x5 x7 x8 u → v_9_putAtom_45 Q3 x0 x3 x4 x5 x7 x8 u := by
  intro a b R3 c3
  obtain ⟨R2, c2, b2⟩ := b
  exact a (fun r0 r1 r2 r3 r4 r5 r6 => R2 r0 r1 r2 r3 r4 r5 r6 → R3 r0 r1 r2 r3 r4 r5 r6) (fun r0 r1 r2 r3 r4 r5 r6 a b => c3 r0 r1 r2 r3 r4 r5 r6 (cj_v_9_putAtom_45b (fun r0 r1 r2 r3 r4 r5 r6 a b => a b) hQ a (c2 r0 r1 r2 r3 r4 r5 r6 b))) b2
theorem pv_9_putAtom_45_i  {Q : iST → Prop} {x0 : Int} {x3 : Int} {x4 : Int} {x5 : Int} {x7 : Int} {x8 : Int} {u : iST} (I : Int → Int → Int → Int → Int → Int → iST → Prop) (s : ∀ (x0 : Int) (x3 : Int) (x4 : Int) (x5 : Int) (x7 : Int) (x8 : Int) (u : iST), I x0 x3 x4 x5 x7 x8 u → pv_9_putAtom_45b I Q x0 x3 x4 x5 x7 x8 u) (h : I x0 x3 x4 x5 x7 x8 u) : pv_9_putAtom_45 Q x0 x3 x4 x5 x7 x8 u := ⟨I, s, h⟩
theorem mn_v_9_putAtom_45 {Q1 Q2 : iST → Prop}  {x0 : Int} {x3 : Int} {x4 : Int} {x5 : Int} {x7 : Int} {x8 : Int} {u : iST} (hQ : ∀ r0, Q1 r0 → Q2 r0) : pv_9_putAtom_45 Q1 x0 x3 x4 x5 x7 x8 u → pv_9_putAtom_45 Q2 x0 x3 x4 x5 x7 x8 u := fun ⟨R, s, h⟩ => ⟨R, fun r0 r1 r2 r3 r4 r5 r6 a => mn_v_9_putAtom_45b (fun r0 r1 r2 r3 r4 r5 r6 a => a) hQ (s r0 r1 r2 r3 r4 r5 r6 a), h⟩
theorem un_v_9_putAtom_45  {Q : iST → Prop} {x0 : Int} {x3 : Int} {x4 : Int} {x5 : Int} {x7 : Int} {x8 : Int} {u : iST} : pv_9_putAtom_45 Q x0 x3 x4 x5 x7 x8 u → pv_9_putAtom_45b (fun x0 x3 x4 x5 x7 x8 u => pv_9_putAtom_45 Q x0 x3 x4 x5 x7 x8 u) Q x0 x3 x4 x5 x7 x8 u := fun ⟨R, s, h⟩ => mn_v_9_putAtom_45b (fun r0 r1 r2 r3 r4 r5 r6 a => ⟨R, s, a⟩) (fun _ h => h) (s _ _ _ _ _ _ _ h)
theorem fo_v_9_putAtom_45  {Q : iST → Prop} {x0 : Int} {x3 : Int} {x4 : Int} {x5 : Int} {x7 : Int} {x8 : Int} {u : iST} : pv_9_putAtom_45b (fun x0 x3 x4 x5 x7 x8 u => pv_9_putAtom_45 Q x0 x3 x4 x5 x7 x8 u) Q x0 x3 x4 x5 x7 x8 u → pv_9_putAtom_45 Q x0 x3 x4 x5 x7 x8 u := fun h => ⟨fun x0 x3 x4 x5 x7 x8 u => pv_9_putAtom_45b (fun x0 x3 x4 x5 x7 x8 u => pv_9_putAtom_45 Q x0 x3 x4 x5 x7 x8 u) Q x0 x3 x4 x5 x7 x8 u, fun r0 r1 r2 r3 r4 r5 r6 a => mn_v_9_putAtom_45b (fun r0 r1 r2 r3 r4 r5 r6 a => un_v_9_putAtom_45 a) (fun _ h => h) a, h⟩
theorem wp_v_9_putAtom_45 {Q1 Q2 : iST → Prop}  {x0 : Int} {x3 : Int} {x4 : Int} {x5 : Int} {x7 : Int} {x8 : Int} {u : iST} (hQ : ∀ r0, Q1 r0 → Q2 r0) : v_9_putAtom_45 Q1 x0 x3 x4 x5 x7 x8 u → pv_9_putAtom_45 Q2 x0 x3 x4 x5 x7 x8 u := fun a => a (fun x0 x3 x4 x5 x7 x8 u => pv_9_putAtom_45 Q2 x0 x3 x4 x5 x7 x8 u) (fun x0 x3 x4 x5 x7 x8 u b => fo_v_9_putAtom_45 (wp_v_9_putAtom_45b (fun r0 r1 r2 r3 r4 r5 r6 a => a) hQ b))
def pv_9_putAtom_25 (Q : iST → Prop) (x0 : Int) (x1 : Int) (x3 : Int) (y0 : Int) (u : iST) : Prop :=
  rl (wland x1 4611686018427387903) (fun v1 => 
  (0 : Int) < y0 ∧ (
  pv_9_putAtom_45 Q x0 x3 y0 v1 1 (Int.tdiv v1 y0) u))
theorem cj_v_9_putAtom_25 {Q1 Q2 Q3 : iST → Prop}  {x0 : Int} {x1 : Int} {x3 : Int} {y0 : Int} {u : iST} (hQ : ∀ r0, Q1 r0 → Q2 r0 → Q3 r0) : v_9_putAtom_25 Q1 x0 x1 x3 y0 u → pv_9_putAtom_25 Q2 x0 x1 x3 y0 u → v_9_putAtom_25 Q3 x0 x1 x3 y0 u := (rl_cj fun _ => (an_cj (cj_v_9_putAtom_45  hQ)))
theorem mn_v_9_putAtom_25 {Q1 Q2 : iST → Prop}  {x0 : Int} {x1 : Int} {x3 : Int} {y0 : Int} {u : iST} (hQ : ∀ r0, Q1 r0 → Q2 r0) : pv_9_putAtom_25 Q1 x0 x1 x3 y0 u → pv_9_putAtom_25 Q2 x0 x1 x3 y0 u := (rl_mn fun _ => (an_mn (mn_v_9_putAtom_45  hQ)))
theorem wp_v_9_putAtom_25 {Q1 Q2 : iST → Prop}  {x0 : Int} {x1 : Int} {x3 : Int} {y0 : Int} {u : iST} (hQ : ∀ r0, Q1 r0 → Q2 r0) : v_9_putAtom_25 Q1 x0 x1 x3 y0 u → pv_9_putAtom_25 Q2 x0 x1 x3 y0 u := (rl_wp fun _ => (an_wp (wp_v_9_putAtom_45  hQ)))
def pv_9_putAtom_13 (Q : iST → Prop) (x0 : Int) (x1 : Int) (y0 : Int) (u : iST) : Prop :=
  br (y0 = 0) (
    pv_9_putAtom_25 Q x0 x1 y0 47 u) (
    pv_9_putAtom_25 Q x0 x1 y0 10 u)
theorem cj_v_9_putAtom_13 {Q1 Q2 Q3 : iST → Prop}  {x0 : Int} {x1 : Int} {y0 : Int} {u : iST} (hQ : ∀ r0, Q1 r0 → Q2 r0 → Q3 r0) : v_9_putAtom_13 Q1 x0 x1 y0 u → pv_9_putAtom_13 Q2 x0 x1 y0 u → v_9_putAtom_13 Q3 x0 x1 y0 u := (br_cj (cj_v_9_putAtom_25  hQ) (cj_v_9_putAtom_25  hQ))
theorem mn_v_9_putAtom_13 {Q1 Q2 : iST → Prop}  {x0 : Int} {x1 : Int} {y0 : Int} {u : iST} (hQ : ∀ r0, Q1 r0 → Q2 r0) : pv_9_putAtom_13 Q1 x0 x1 y0 u → pv_9_putAtom_13 Q2 x0 x1 y0 u := (br_mn (mn_v_9_putAtom_25  hQ) (mn_v_9_putAtom_25  hQ))
theorem wp_v_9_putAtom_13 {Q1 Q2 : iST → Prop}  {x0 : Int} {x1 : Int} {y0 : Int} {u : iST} (hQ : ∀ r0, Q1 r0 → Q2 r0) : v_9_putAtom_13 Q1 x0 x1 y0 u → pv_9_putAtom_13 Q2 x0 x1 y0 u := (br_wp (wp_v_9_putAtom_25  hQ) (wp_v_9_putAtom_25  hQ))
def pv_9_putAtom (th : Int) (a0 : Int) (Q : iST → Prop) (u : iST) : Prop :=
  br (4611686018427387904 ≤ a0) (
    pv_9_putAtom_13 Q th a0 0 u) (
    pv_9_putAtom_13 Q th a0 1 u)
theorem cj_v_9_putAtom {Q1 Q2 Q3 : iST → Prop}  {th : Int} {a0 : Int} {u : iST} (hQ : ∀ r0, Q1 r0 → Q2 r0 → Q3 r0) : v_9_putAtom th a0 Q1 u → pv_9_putAtom th a0 Q2 u → v_9_putAtom th a0 Q3 u := (br_cj (cj_v_9_putAtom_13  hQ) (cj_v_9_putAtom_13  hQ))
theorem mn_v_9_putAtom {Q1 Q2 : iST → Prop}  {th : Int} {a0 : Int} {u : iST} (hQ : ∀ r0, Q1 r0 → Q2 r0) : pv_9_putAtom th a0 Q1 u → pv_9_putAtom th a0 Q2 u := (br_mn (mn_v_9_putAtom_13  hQ) (mn_v_9_putAtom_13  hQ))
theorem wp_v_9_putAtom {Q1 Q2 : iST → Prop}  {th : Int} {a0 : Int} {u : iST} (hQ : ∀ r0, Q1 r0 → Q2 r0) : v_9_putAtom th a0 Q1 u → pv_9_putAtom th a0 Q2 u := (br_wp (wp_v_9_putAtom_13  hQ) (wp_v_9_putAtom_13  hQ))
def pv_9_write_233 (R7 : Int → Int → Int → Int → iST → Prop) (R130 : Int → Int → Int → Int → iST → Prop) (Q : iST → Prop) (x0 : Int) (x2 : Int) (x3 : Int) (x4 : Int) (u : iST) : Prop :=
  pv_9_put x0 41 (fun u => 
  ovp (x2 + (-1)) (
  R130 x0 (x2 + (-1)) x3 x4 u)) u
theorem cj_v_9_write_233 {Q1 Q2 Q3 : iST → Prop} {R71 R72 R73 : Int → Int → Int → Int → iST → Prop} {R1301 R1302 R1303 : Int → Int → Int → Int → iST → Prop} {x0 : Int} {x2 : Int} {x3 : Int} {x4 : Int} {u : iST} (hR7 : ∀ r0 r1 r2 r3 r4, R71 r0 r1 r2 r3 r4 → R72 r0 r1 r2 r3 r4 → R73 r0 r1 r2 r3 r4) (hR130 : ∀ r0 r1 r2 r3 r4, R1301 r0 r1 r2 r3 r4 → R1302 r0 r1 r2 r3 r4 → R1303 r0 r1 r2 r3 r4) (hQ : ∀ r0, Q1 r0 → Q2 r0 → Q3 r0) : v_9_write_233 R71 R1301 Q1 x0 x2 x3 x4 u → pv_9_write_233 R72 R1302 Q2 x0 x2 x3 x4 u → v_9_write_233 R73 R1303 Q3 x0 x2 x3 x4 u := (cj_v_9_put (fun _ => (ov_cj (hR130 _ _ _ _ _))))
theorem mn_v_9_write_233 {Q1 Q2 : iST → Prop} {R71 R72 : Int → Int → Int → Int → iST → Prop} {R1301 R1302 : Int → Int → Int → Int → iST → Prop} {x0 : Int} {x2 : Int} {x3 : Int} {x4 : Int} {u : iST} (hR7 : ∀ r0 r1 r2 r3 r4, R71 r0 r1 r2 r3 r4 → R72 r0 r1 r2 r3 r4) (hR130 : ∀ r0 r1 r2 r3 r4, R1301 r0 r1 r2 r3 r4 → R1302 r0 r1 r2 r3 r4) (hQ : ∀ r0, Q1 r0 → Q2 r0) : pv_9_write_233 R71 R1301 Q1 x0 x2 x3 x4 u → pv_9_write_233 R72 R1302 Q2 x0 x2 x3 x4 u := (mn_v_9_put (fun _ => (ov_mn (hR130 _ _ _ _ _))))
theorem wp_v_9_write_233 {Q1 Q2 : iST → Prop} {R71 R72 : Int → Int → Int → Int → iST → Prop} {R1301 R1302 : Int → Int → Int → Int → iST → Prop} {x0 : Int} {x2 : Int} {x3 : Int} {x4 : Int} {u : iST} (hR7 : ∀ r0 r1 r2 r3 r4, R71 r0 r1 r2 r3 r4 → R72 r0 r1 r2 r3 r4) (hR130 : ∀ r0 r1 r2 r3 r4, R1301 r0 r1 r2 r3 r4 → R1302 r0 r1 r2 r3 r4) (hQ : ∀ r0, Q1 r0 → Q2 r0) : v_9_write_233 R71 R1301 Q1 x0 x2 x3 x4 u → pv_9_write_233 R72 R1302 Q2 x0 x2 x3 x4 u := (wp_v_9_put (fun _ => (ov_wp (hR130 _ _ _ _ _))))
def pv_9_write_130b (R7 : Int → Int → Int → Int → iST → Prop) (R130 : Int → Int → Int → Int → iST → Prop) (Q : iST → Prop) (x0 : Int) (x2 : Int) (x3 : Int) (x4 : Int) (u : iST) : Prop :=
  br (x2 ≤ 0) (
    ovp (x4 + 1) (
    R7 x0 x2 x3 (x4 + 1) u)) (
    br (x3 ≠ (-1)) (
      ovp (x4 + 1) (
      R7 x0 x2 x3 (x4 + 1) u)) (
      ovp (x2 - 1) (
      bdp (x2 - 1) (slenI x0) (rd (u.2.1 56 (2000 * x0 + (x2 - 1))) (fun v9 => 
      pv_7_isPair v9 (fun v10 u => 
      br (v10 = 0) (
        br (v9 = 0) (
          pv_9_write_233 R7 R130 Q x0 x2 x3 x4 u) (
          pv_9_put x0 32 (fun u => 
          pv_9_put x0 46 (fun u => 
          pv_9_put x0 32 (fun u => 
          pv_7_cellOf v9 (fun v16 u => 
          pv_9_putAtom x0 v16 (fun u => 
          pv_9_write_233 R7 R130 Q x0 x2 x3 x4 u) u) u) u) u) u)) (
        pv_9_put x0 32 (fun u => 
        pv_7_left v9 (fun v19 u => 
        ovp (x2 - 1) (
        pv_7_right v9 (fun v21 u => 
        bdp (x2 - 1) (slenI x0) (sw (iA u 56 (2000 * x0 + (x2 - 1)) v21) (fun u => 
        R130 x0 x2 v19 x4 u))) u)) u) u)) u)))))
theorem cj_v_9_write_130b {Q1 Q2 Q3 : iST → Prop} {R71 R72 R73 : Int → Int → Int → Int → iST → Prop} {R1301 R1302 R1303 : Int → Int → Int → Int → iST → Prop} {x0 : Int} {x2 : Int} {x3 : Int} {x4 : Int} {u : iST} (hR7 : ∀ r0 r1 r2 r3 r4, R71 r0 r1 r2 r3 r4 → R72 r0 r1 r2 r3 r4 → R73 r0 r1 r2 r3 r4) (hR130 : ∀ r0 r1 r2 r3 r4, R1301 r0 r1 r2 r3 r4 → R1302 r0 r1 r2 r3 r4 → R1303 r0 r1 r2 r3 r4) (hQ : ∀ r0, Q1 r0 → Q2 r0 → Q3 r0) : v_9_write_130b R71 R1301 Q1 x0 x2 x3 x4 u → pv_9_write_130b R72 R1302 Q2 x0 x2 x3 x4 u → v_9_write_130b R73 R1303 Q3 x0 x2 x3 x4 u := (br_cj (ov_cj (hR7 _ _ _ _ _)) (br_cj (ov_cj (hR7 _ _ _ _ _)) (ov_cj (bd_cj (rd_cj fun _ => (cj_v_7_isPair (fun _ _ => (br_cj (br_cj (cj_v_9_write_233 hR7 hR130 hQ) (cj_v_9_put (fun _ => (cj_v_9_put (fun _ => (cj_v_9_put (fun _ => (cj_v_7_cellOf (fun _ _ => (cj_v_9_putAtom (fun _ => (cj_v_9_write_233 hR7 hR130 hQ)))))))))))) (cj_v_9_put (fun _ => (cj_v_7_left (fun _ _ => (ov_cj (cj_v_7_right (fun _ _ => (bd_cj (sw_cj fun _ => (hR130 _ _ _ _ _))))))))))))))))))
theorem mn_v_9_write_130b {Q1 Q2 : iST → Prop} {R71 R72 : Int → Int → Int → Int → iST → Prop} {R1301 R1302 : Int → Int → Int → Int → iST → Prop} {x0 : Int} {x2 : Int} {x3 : Int} {x4 : Int} {u : iST} (hR7 : ∀ r0 r1 r2 r3 r4, R71 r0 r1 r2 r3 r4 → R72 r0 r1 r2 r3 r4) (hR130 : ∀ r0 r1 r2 r3 r4, R1301 r0 r1 r2 r3 r4 → R1302 r0 r1 r2 r3 r4) (hQ : ∀ r0, Q1 r0 → Q2 r0) : pv_9_write_130b R71 R1301 Q1 x0 x2 x3 x4 u → pv_9_write_130b R72 R1302 Q2 x0 x2 x3 x4 u := (br_mn (ov_mn (hR7 _ _ _ _ _)) (br_mn (ov_mn (hR7 _ _ _ _ _)) (ov_mn (bd_mn (rd_mn fun _ => (mn_v_7_isPair (fun _ _ => (br_mn (br_mn (mn_v_9_write_233 hR7 hR130 hQ) (mn_v_9_put (fun _ => (mn_v_9_put (fun _ => (mn_v_9_put (fun _ => (mn_v_7_cellOf (fun _ _ => (mn_v_9_putAtom (fun _ => (mn_v_9_write_233 hR7 hR130 hQ)))))))))))) (mn_v_9_put (fun _ => (mn_v_7_left (fun _ _ => (ov_mn (mn_v_7_right (fun _ _ => (bd_mn (sw_mn fun _ => (hR130 _ _ _ _ _))))))))))))))))))
theorem wp_v_9_write_130b {Q1 Q2 : iST → Prop} {R71 R72 : Int → Int → Int → Int → iST → Prop} {R1301 R1302 : Int → Int → Int → Int → iST → Prop} {x0 : Int} {x2 : Int} {x3 : Int} {x4 : Int} {u : iST} (hR7 : ∀ r0 r1 r2 r3 r4, R71 r0 r1 r2 r3 r4 → R72 r0 r1 r2 r3 r4) (hR130 : ∀ r0 r1 r2 r3 r4, R1301 r0 r1 r2 r3 r4 → R1302 r0 r1 r2 r3 r4) (hQ : ∀ r0, Q1 r0 → Q2 r0) : v_9_write_130b R71 R1301 Q1 x0 x2 x3 x4 u → pv_9_write_130b R72 R1302 Q2 x0 x2 x3 x4 u := (br_wp (ov_wp (hR7 _ _ _ _ _)) (br_wp (ov_wp (hR7 _ _ _ _ _)) (ov_wp (bd_wp (rd_wp fun _ => (wp_v_7_isPair (fun _ _ => (br_wp (br_wp (wp_v_9_write_233 hR7 hR130 hQ) (wp_v_9_put (fun _ => (wp_v_9_put (fun _ => (wp_v_9_put (fun _ => (wp_v_7_cellOf (fun _ _ => (wp_v_9_putAtom (fun _ => (wp_v_9_write_233 hR7 hR130 hQ)))))))))))) (wp_v_9_put (fun _ => (wp_v_7_left (fun _ _ => (ov_wp (wp_v_7_right (fun _ _ => (bd_wp (sw_wp fun _ => (hR130 _ _ _ _ _))))))))))))))))))
def pv_9_write_130 (R7 : Int → Int → Int → Int → iST → Prop) (Q : iST → Prop) (x0 : Int) (x2 : Int) (x3 : Int) (x4 : Int) (u : iST) : Prop := ∃ R130 : Int → Int → Int → Int → iST → Prop, (∀ (x0 : Int) (x2 : Int) (x3 : Int) (x4 : Int) (u : iST), R130 x0 x2 x3 x4 u → pv_9_write_130b R7 R130 Q x0 x2 x3 x4 u) ∧ R130 x0 x2 x3 x4 u
theorem cj_v_9_write_130 {Q1 Q2 Q3 : iST → Prop} {R71 R72 R73 : Int → Int → Int → Int → iST → Prop} {x0 : Int} {x2 : Int} {x3 : Int} {x4 : Int} {u : iST} (hR7 : ∀ r0 r1 r2 r3 r4, R71 r0 r1 r2 r3 r4 → R72 r0 r1 r2 r3 r4 → R73 r0 r1 r2 r3 r4) (hQ : ∀ r0, Q1 r0 → Q2 r0 → Q3 r0) : v_9_write_130 R71 Q1 x0 x2 x3 x4 u → pv_9_write_130 R72 Q2 x0 x2 x3 x4 u → v_9_write_130 R73 Q3 x0 x2 x3 x4 u := by
  intro a b R3 c3
  obtain ⟨R2, c2, b2⟩ := b
  exact a (fun r0 r1 r2 r3 r4 => R2 r0 r1 r2 r3 r4 → R3 r0 r1 r2 r3 r4) (fun r0 r1 r2 r3 r4 a b => c3 r0 r1 r2 r3 r4 (cj_v_9_write_130b hR7 (fun r0 r1 r2 r3 r4 a b => a b) hQ a (c2 r0 r1 r2 r3 r4 b))) b2
theorem pv_9_write_130_i {R7 : Int → Int → Int → Int → iST → Prop} {Q : iST → Prop} {x0 : Int} {x2 : Int} {x3 : Int} {x4 : Int} {u : iST} (I : Int → Int → Int → Int → iST → Prop) (s : ∀ (x0 : Int) (x2 : Int) (x3 : Int) (x4 : Int) (u : iST), I x0 x2 x3 x4 u → pv_9_write_130b R7 I Q x0 x2 x3 x4 u) (h : I x0 x2 x3 x4 u) : pv_9_write_130 R7 Q x0 x2 x3 x4 u := ⟨I, s, h⟩
theorem mn_v_9_write_130 {Q1 Q2 : iST → Prop} {R71 R72 : Int → Int → Int → Int → iST → Prop} {x0 : Int} {x2 : Int} {x3 : Int} {x4 : Int} {u : iST} (hR7 : ∀ r0 r1 r2 r3 r4, R71 r0 r1 r2 r3 r4 → R72 r0 r1 r2 r3 r4) (hQ : ∀ r0, Q1 r0 → Q2 r0) : pv_9_write_130 R71 Q1 x0 x2 x3 x4 u → pv_9_write_130 R72 Q2 x0 x2 x3 x4 u := fun ⟨R, s, h⟩ => ⟨R, fun r0 r1 r2 r3 r4 a => mn_v_9_write_130b hR7 (fun r0 r1 r2 r3 r4 a => a) hQ (s r0 r1 r2 r3 r4 a), h⟩
theorem un_v_9_write_130 {R7 : Int → Int → Int → Int → iST → Prop} {Q : iST → Prop} {x0 : Int} {x2 : Int} {x3 : Int} {x4 : Int} {u : iST} : pv_9_write_130 R7 Q x0 x2 x3 x4 u → pv_9_write_130b R7 (fun x0 x2 x3 x4 u => pv_9_write_130 R7 Q x0 x2 x3 x4 u) Q x0 x2 x3 x4 u := fun ⟨R, s, h⟩ => mn_v_9_write_130b (fun _ _ _ _ _ h => h) (fun r0 r1 r2 r3 r4 a => ⟨R, s, a⟩) (fun _ h => h) (s _ _ _ _ _ h)
theorem fo_v_9_write_130 {R7 : Int → Int → Int → Int → iST → Prop} {Q : iST → Prop} {x0 : Int} {x2 : Int} {x3 : Int} {x4 : Int} {u : iST} : pv_9_write_130b R7 (fun x0 x2 x3 x4 u => pv_9_write_130 R7 Q x0 x2 x3 x4 u) Q x0 x2 x3 x4 u → pv_9_write_130 R7 Q x0 x2 x3 x4 u := fun h => ⟨fun x0 x2 x3 x4 u => pv_9_write_130b R7 (fun x0 x2 x3 x4 u => pv_9_write_130 R7 Q x0 x2 x3 x4 u) Q x0 x2 x3 x4 u, fun r0 r1 r2 r3 r4 a => mn_v_9_write_130b (fun _ _ _ _ _ h => h) (fun r0 r1 r2 r3 r4 a => un_v_9_write_130 a) (fun _ h => h) a, h⟩
theorem wp_v_9_write_130 {Q1 Q2 : iST → Prop} {R71 R72 : Int → Int → Int → Int → iST → Prop} {x0 : Int} {x2 : Int} {x3 : Int} {x4 : Int} {u : iST} (hR7 : ∀ r0 r1 r2 r3 r4, R71 r0 r1 r2 r3 r4 → R72 r0 r1 r2 r3 r4) (hQ : ∀ r0, Q1 r0 → Q2 r0) : v_9_write_130 R71 Q1 x0 x2 x3 x4 u → pv_9_write_130 R72 Q2 x0 x2 x3 x4 u := fun a => a (fun x0 x2 x3 x4 u => pv_9_write_130 R72 Q2 x0 x2 x3 x4 u) (fun x0 x2 x3 x4 u b => fo_v_9_write_130 (wp_v_9_write_130b hR7 (fun r0 r1 r2 r3 r4 a => a) hQ b))
