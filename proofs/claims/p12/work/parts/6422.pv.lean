def pv_10_areDifferentVariables_2b (R2 : Int → iST → Prop) (Q : Int → iST → Prop) (x2 : Int) (u : iST) : Prop :=
  pv_7_isPair x2 (fun v1 u => 
  br (v1 = 0) (
    ztp 1 (Q 1 u)) (
    pv_7_left x2 (fun v2 u => 
    pv_7_isVariable v2 (fun v3 u => 
    br (v3 ≠ 0) (
      pv_7_right x2 (fun v4 u => 
      pv_10_areDifferentVariables_42 R2 Q x2 v4 u) u) (
      ztp 0 (Q 0 u))) u) u)) u
theorem cj_v_10_areDifferentVariables_2b {Q1 Q2 Q3 : Int → iST → Prop} {R21 R22 R23 : Int → iST → Prop} {x2 : Int} {u : iST} (hR2 : ∀ r0 r1, R21 r0 r1 → R22 r0 r1 → R23 r0 r1) (hQ : ∀ r0 r1, Q1 r0 r1 → Q2 r0 r1 → Q3 r0 r1) : v_10_areDifferentVariables_2b R21 Q1 x2 u → pv_10_areDifferentVariables_2b R22 Q2 x2 u → v_10_areDifferentVariables_2b R23 Q3 x2 u := (cj_v_7_isPair (fun _ _ => (br_cj (zt_cj (hQ _ _)) (cj_v_7_left (fun _ _ => (cj_v_7_isVariable (fun _ _ => (br_cj (cj_v_7_right (fun _ _ => (cj_v_10_areDifferentVariables_42 hR2 hQ))) (zt_cj (hQ _ _))))))))))
theorem mn_v_10_areDifferentVariables_2b {Q1 Q2 : Int → iST → Prop} {R21 R22 : Int → iST → Prop} {x2 : Int} {u : iST} (hR2 : ∀ r0 r1, R21 r0 r1 → R22 r0 r1) (hQ : ∀ r0 r1, Q1 r0 r1 → Q2 r0 r1) : pv_10_areDifferentVariables_2b R21 Q1 x2 u → pv_10_areDifferentVariables_2b R22 Q2 x2 u := (mn_v_7_isPair (fun _ _ => (br_mn (zt_mn (hQ _ _)) (mn_v_7_left (fun _ _ => (mn_v_7_isVariable (fun _ _ => (br_mn (mn_v_7_right (fun _ _ => (mn_v_10_areDifferentVariables_42 hR2 hQ))) (zt_mn (hQ _ _))))))))))
theorem wp_v_10_areDifferentVariables_2b {Q1 Q2 : Int → iST → Prop} {R21 R22 : Int → iST → Prop} {x2 : Int} {u : iST} (hR2 : ∀ r0 r1, R21 r0 r1 → R22 r0 r1) (hQ : ∀ r0 r1, Q1 r0 r1 → Q2 r0 r1) : v_10_areDifferentVariables_2b R21 Q1 x2 u → pv_10_areDifferentVariables_2b R22 Q2 x2 u := (wp_v_7_isPair (fun _ _ => (br_wp (zt_wp (hQ _ _)) (wp_v_7_left (fun _ _ => (wp_v_7_isVariable (fun _ _ => (br_wp (wp_v_7_right (fun _ _ => (wp_v_10_areDifferentVariables_42 hR2 hQ))) (zt_wp (hQ _ _))))))))))
def pv_10_areDifferentVariables_2 (Q : Int → iST → Prop) (x2 : Int) (u : iST) : Prop := ∃ R2 : Int → iST → Prop, (∀ (x2 : Int) (u : iST), R2 x2 u → pv_10_areDifferentVariables_2b R2 Q x2 u) ∧ R2 x2 u
theorem cj_v_10_areDifferentVariables_2 {Q1 Q2 Q3 : Int → iST → Prop}  {x2 : Int} {u : iST} (hQ : ∀ r0 r1, Q1 r0 r1 → Q2 r0 r1 → Q3 r0 r1) : v_10_areDifferentVariables_2 Q1 x2 u → pv_10_areDifferentVariables_2 Q2 x2 u → v_10_areDifferentVariables_2 Q3 x2 u := by
  intro a b R3 c3
  obtain ⟨R2, c2, b2⟩ := b
  exact a (fun r0 r1 => R2 r0 r1 → R3 r0 r1) (fun r0 r1 a b => c3 r0 r1 (cj_v_10_areDifferentVariables_2b (fun r0 r1 a b => a b) hQ a (c2 r0 r1 b))) b2
theorem pv_10_areDifferentVariables_2_i  {Q : Int → iST → Prop} {x2 : Int} {u : iST} (I : Int → iST → Prop) (s : ∀ (x2 : Int) (u : iST), I x2 u → pv_10_areDifferentVariables_2b I Q x2 u) (h : I x2 u) : pv_10_areDifferentVariables_2 Q x2 u := ⟨I, s, h⟩
theorem mn_v_10_areDifferentVariables_2 {Q1 Q2 : Int → iST → Prop}  {x2 : Int} {u : iST} (hQ : ∀ r0 r1, Q1 r0 r1 → Q2 r0 r1) : pv_10_areDifferentVariables_2 Q1 x2 u → pv_10_areDifferentVariables_2 Q2 x2 u := fun ⟨R, s, h⟩ => ⟨R, fun r0 r1 a => mn_v_10_areDifferentVariables_2b (fun r0 r1 a => a) hQ (s r0 r1 a), h⟩
theorem un_v_10_areDifferentVariables_2  {Q : Int → iST → Prop} {x2 : Int} {u : iST} : pv_10_areDifferentVariables_2 Q x2 u → pv_10_areDifferentVariables_2b (fun x2 u => pv_10_areDifferentVariables_2 Q x2 u) Q x2 u := fun ⟨R, s, h⟩ => mn_v_10_areDifferentVariables_2b (fun r0 r1 a => ⟨R, s, a⟩) (fun _ _ h => h) (s _ _ h)
theorem fo_v_10_areDifferentVariables_2  {Q : Int → iST → Prop} {x2 : Int} {u : iST} : pv_10_areDifferentVariables_2b (fun x2 u => pv_10_areDifferentVariables_2 Q x2 u) Q x2 u → pv_10_areDifferentVariables_2 Q x2 u := fun h => ⟨fun x2 u => pv_10_areDifferentVariables_2b (fun x2 u => pv_10_areDifferentVariables_2 Q x2 u) Q x2 u, fun r0 r1 a => mn_v_10_areDifferentVariables_2b (fun r0 r1 a => un_v_10_areDifferentVariables_2 a) (fun _ _ h => h) a, h⟩
theorem wp_v_10_areDifferentVariables_2 {Q1 Q2 : Int → iST → Prop}  {x2 : Int} {u : iST} (hQ : ∀ r0 r1, Q1 r0 r1 → Q2 r0 r1) : v_10_areDifferentVariables_2 Q1 x2 u → pv_10_areDifferentVariables_2 Q2 x2 u := fun a => a (fun x2 u => pv_10_areDifferentVariables_2 Q2 x2 u) (fun x2 u b => fo_v_10_areDifferentVariables_2 (wp_v_10_areDifferentVariables_2b (fun r0 r1 a => a) hQ b))
def pv_10_areDifferentVariables (a0 : Int) (Q : Int → iST → Prop) (u : iST) : Prop :=
  pv_10_areDifferentVariables_2 Q a0 u
theorem cj_v_10_areDifferentVariables {Q1 Q2 Q3 : Int → iST → Prop}  {a0 : Int} {u : iST} (hQ : ∀ r0 r1, Q1 r0 r1 → Q2 r0 r1 → Q3 r0 r1) : v_10_areDifferentVariables a0 Q1 u → pv_10_areDifferentVariables a0 Q2 u → v_10_areDifferentVariables a0 Q3 u := (cj_v_10_areDifferentVariables_2  hQ)
theorem mn_v_10_areDifferentVariables {Q1 Q2 : Int → iST → Prop}  {a0 : Int} {u : iST} (hQ : ∀ r0 r1, Q1 r0 r1 → Q2 r0 r1) : pv_10_areDifferentVariables a0 Q1 u → pv_10_areDifferentVariables a0 Q2 u := (mn_v_10_areDifferentVariables_2  hQ)
theorem wp_v_10_areDifferentVariables {Q1 Q2 : Int → iST → Prop}  {a0 : Int} {u : iST} (hQ : ∀ r0 r1, Q1 r0 r1 → Q2 r0 r1) : v_10_areDifferentVariables a0 Q1 u → pv_10_areDifferentVariables a0 Q2 u := (wp_v_10_areDifferentVariables_2  hQ)
def pv_8_inductionAsked_106 (Q : Int → iST → Prop) (y0 : Int) (u : iST) : Prop :=
  br (y0 = 0) (
    Q 2 u) (
    Q 0 u)
theorem cj_v_8_inductionAsked_106 {Q1 Q2 Q3 : Int → iST → Prop}  {y0 : Int} {u : iST} (hQ : ∀ r0 r1, Q1 r0 r1 → Q2 r0 r1 → Q3 r0 r1) : v_8_inductionAsked_106 Q1 y0 u → pv_8_inductionAsked_106 Q2 y0 u → v_8_inductionAsked_106 Q3 y0 u := (br_cj (hQ _ _) (hQ _ _))
theorem mn_v_8_inductionAsked_106 {Q1 Q2 : Int → iST → Prop}  {y0 : Int} {u : iST} (hQ : ∀ r0 r1, Q1 r0 r1 → Q2 r0 r1) : pv_8_inductionAsked_106 Q1 y0 u → pv_8_inductionAsked_106 Q2 y0 u := (br_mn (hQ _ _) (hQ _ _))
theorem wp_v_8_inductionAsked_106 {Q1 Q2 : Int → iST → Prop}  {y0 : Int} {u : iST} (hQ : ∀ r0 r1, Q1 r0 r1 → Q2 r0 r1) : v_8_inductionAsked_106 Q1 y0 u → pv_8_inductionAsked_106 Q2 y0 u := (br_wp (hQ _ _) (hQ _ _))
def pv_8_inductionAsked_105 (Q : Int → iST → Prop) (u : iST) : Prop :=
  pv_8_inductionAsked_106 Q 0 u
theorem cj_v_8_inductionAsked_105 {Q1 Q2 Q3 : Int → iST → Prop}  {u : iST} (hQ : ∀ r0 r1, Q1 r0 r1 → Q2 r0 r1 → Q3 r0 r1) : v_8_inductionAsked_105 Q1 u → pv_8_inductionAsked_105 Q2 u → v_8_inductionAsked_105 Q3 u := (cj_v_8_inductionAsked_106  hQ)
theorem mn_v_8_inductionAsked_105 {Q1 Q2 : Int → iST → Prop}  {u : iST} (hQ : ∀ r0 r1, Q1 r0 r1 → Q2 r0 r1) : pv_8_inductionAsked_105 Q1 u → pv_8_inductionAsked_105 Q2 u := (mn_v_8_inductionAsked_106  hQ)
theorem wp_v_8_inductionAsked_105 {Q1 Q2 : Int → iST → Prop}  {u : iST} (hQ : ∀ r0 r1, Q1 r0 r1 → Q2 r0 r1) : v_8_inductionAsked_105 Q1 u → pv_8_inductionAsked_105 Q2 u := (wp_v_8_inductionAsked_106  hQ)
def pv_8_inductionAsked (a0 : Int) (Q : Int → iST → Prop) (u : iST) : Prop :=
  pv_7_left a0 (fun v1 u => 
  pv_7_lengthOf a0 (fun v2 u => 
  ovp (v2 - 1) (
  br ((v2 - 1) < 0) (
    Q 2 u) (
    pv_7_isName v1 (fun v4 u => 
    br (v4 = 0) (
      Q 2 u) (
      pv_7_right a0 (fun v5 u => 
      pv_10_areDifferentVariables v5 (fun v6 u => 
      br (v6 ≠ 0) (
        pv_0_functionOf v1 (fun v7 u => 
        br (v7 ≠ (-1)) (
          bdp v7 40 (rd (u.2.1 4 v7) (fun v8 => 
          br (v8 = (-1)) (
            pv_8_inductionAsked_105 Q u) (
            bdp v7 40 (rd (u.2.1 2 v7) (fun v9 => 
            br (v9 ≠ (v2 - 1)) (
              pv_8_inductionAsked_105 Q u) (
              pv_8_inductionAsked_106 Q 1 u))))))) (
          Q 3 u)) u) (
        Q 2 u)) u) u)) u))) u) u
theorem cj_v_8_inductionAsked {Q1 Q2 Q3 : Int → iST → Prop}  {a0 : Int} {u : iST} (hQ : ∀ r0 r1, Q1 r0 r1 → Q2 r0 r1 → Q3 r0 r1) : v_8_inductionAsked a0 Q1 u → pv_8_inductionAsked a0 Q2 u → v_8_inductionAsked a0 Q3 u := (cj_v_7_left (fun _ _ => (cj_v_7_lengthOf (fun _ _ => (ov_cj (br_cj (hQ _ _) (cj_v_7_isName (fun _ _ => (br_cj (hQ _ _) (cj_v_7_right (fun _ _ => (cj_v_10_areDifferentVariables (fun _ _ => (br_cj (cj_v_0_functionOf (fun _ _ => (br_cj (bd_cj (rd_cj fun _ => (br_cj (cj_v_8_inductionAsked_105  hQ) (bd_cj (rd_cj fun _ => (br_cj (cj_v_8_inductionAsked_105  hQ) (cj_v_8_inductionAsked_106  hQ))))))) (hQ _ _)))) (hQ _ _)))))))))))))))
theorem mn_v_8_inductionAsked {Q1 Q2 : Int → iST → Prop}  {a0 : Int} {u : iST} (hQ : ∀ r0 r1, Q1 r0 r1 → Q2 r0 r1) : pv_8_inductionAsked a0 Q1 u → pv_8_inductionAsked a0 Q2 u := (mn_v_7_left (fun _ _ => (mn_v_7_lengthOf (fun _ _ => (ov_mn (br_mn (hQ _ _) (mn_v_7_isName (fun _ _ => (br_mn (hQ _ _) (mn_v_7_right (fun _ _ => (mn_v_10_areDifferentVariables (fun _ _ => (br_mn (mn_v_0_functionOf (fun _ _ => (br_mn (bd_mn (rd_mn fun _ => (br_mn (mn_v_8_inductionAsked_105  hQ) (bd_mn (rd_mn fun _ => (br_mn (mn_v_8_inductionAsked_105  hQ) (mn_v_8_inductionAsked_106  hQ))))))) (hQ _ _)))) (hQ _ _)))))))))))))))
theorem wp_v_8_inductionAsked {Q1 Q2 : Int → iST → Prop}  {a0 : Int} {u : iST} (hQ : ∀ r0 r1, Q1 r0 r1 → Q2 r0 r1) : v_8_inductionAsked a0 Q1 u → pv_8_inductionAsked a0 Q2 u := (wp_v_7_left (fun _ _ => (wp_v_7_lengthOf (fun _ _ => (ov_wp (br_wp (hQ _ _) (wp_v_7_isName (fun _ _ => (br_wp (hQ _ _) (wp_v_7_right (fun _ _ => (wp_v_10_areDifferentVariables (fun _ _ => (br_wp (wp_v_0_functionOf (fun _ _ => (br_wp (bd_wp (rd_wp fun _ => (br_wp (wp_v_8_inductionAsked_105  hQ) (bd_wp (rd_wp fun _ => (br_wp (wp_v_8_inductionAsked_105  hQ) (wp_v_8_inductionAsked_106  hQ))))))) (hQ _ _)))) (hQ _ _)))))))))))))))
def pv_7_isCallOf (a0 : Int) (a1 : Int) (Q : Int → iST → Prop) (u : iST) : Prop :=
  br (a0 < 0) (
    ztp 0 (Q 0 u)) (
    rd (u.1 29) (fun v1 => 
    br (v1 ≤ a0) (
      ztp 0 (Q 0 u)) (
      bdp a0 160000 (rl (u.2.2 a0) (fun v2 => 
      br (0 ≤ v2) (
        ztp 0 (Q 0 u)) (
        bdp a0 160000 (rl (u.2.2 a0) (fun v3 => 
        rl (wlushr v3 31) (fun v4 => 
        rd (wl2i v4) (fun v5 => 
        rd (wand v5 2147483647) (fun v6 => 
        br (v6 ≠ a1) (
          ztp 0 (Q 0 u)) (
          ztp 1 (Q 1 u)))))))))))))
theorem cj_v_7_isCallOf {Q1 Q2 Q3 : Int → iST → Prop}  {a0 : Int} {a1 : Int} {u : iST} (hQ : ∀ r0 r1, Q1 r0 r1 → Q2 r0 r1 → Q3 r0 r1) : v_7_isCallOf a0 a1 Q1 u → pv_7_isCallOf a0 a1 Q2 u → v_7_isCallOf a0 a1 Q3 u := (br_cj (zt_cj (hQ _ _)) (rd_cj fun _ => (br_cj (zt_cj (hQ _ _)) (bd_cj (rl_cj fun _ => (br_cj (zt_cj (hQ _ _)) (bd_cj (rl_cj fun _ => (rl_cj fun _ => (rd_cj fun _ => (rd_cj fun _ => (br_cj (zt_cj (hQ _ _)) (zt_cj (hQ _ _))))))))))))))
theorem mn_v_7_isCallOf {Q1 Q2 : Int → iST → Prop}  {a0 : Int} {a1 : Int} {u : iST} (hQ : ∀ r0 r1, Q1 r0 r1 → Q2 r0 r1) : pv_7_isCallOf a0 a1 Q1 u → pv_7_isCallOf a0 a1 Q2 u := (br_mn (zt_mn (hQ _ _)) (rd_mn fun _ => (br_mn (zt_mn (hQ _ _)) (bd_mn (rl_mn fun _ => (br_mn (zt_mn (hQ _ _)) (bd_mn (rl_mn fun _ => (rl_mn fun _ => (rd_mn fun _ => (rd_mn fun _ => (br_mn (zt_mn (hQ _ _)) (zt_mn (hQ _ _))))))))))))))
theorem wp_v_7_isCallOf {Q1 Q2 : Int → iST → Prop}  {a0 : Int} {a1 : Int} {u : iST} (hQ : ∀ r0 r1, Q1 r0 r1 → Q2 r0 r1) : v_7_isCallOf a0 a1 Q1 u → pv_7_isCallOf a0 a1 Q2 u := (br_wp (zt_wp (hQ _ _)) (rd_wp fun _ => (br_wp (zt_wp (hQ _ _)) (bd_wp (rl_wp fun _ => (br_wp (zt_wp (hQ _ _)) (bd_wp (rl_wp fun _ => (rl_wp fun _ => (rd_wp fun _ => (rd_wp fun _ => (br_wp (zt_wp (hQ _ _)) (zt_wp (hQ _ _))))))))))))))
def pv_8_goToPath_154 (Q : Int → iST → Prop) (x2 : Int) (u : iST) : Prop :=
  sw (iI u 34 x2) (fun u => 
  ztp 1 (Q 1 u))
theorem cj_v_8_goToPath_154 {Q1 Q2 Q3 : Int → iST → Prop}  {x2 : Int} {u : iST} (hQ : ∀ r0 r1, Q1 r0 r1 → Q2 r0 r1 → Q3 r0 r1) : v_8_goToPath_154 Q1 x2 u → pv_8_goToPath_154 Q2 x2 u → v_8_goToPath_154 Q3 x2 u := (sw_cj fun _ => (zt_cj (hQ _ _)))
theorem mn_v_8_goToPath_154 {Q1 Q2 : Int → iST → Prop}  {x2 : Int} {u : iST} (hQ : ∀ r0 r1, Q1 r0 r1 → Q2 r0 r1) : pv_8_goToPath_154 Q1 x2 u → pv_8_goToPath_154 Q2 x2 u := (sw_mn fun _ => (zt_mn (hQ _ _)))
theorem wp_v_8_goToPath_154 {Q1 Q2 : Int → iST → Prop}  {x2 : Int} {u : iST} (hQ : ∀ r0 r1, Q1 r0 r1 → Q2 r0 r1) : v_8_goToPath_154 Q1 x2 u → pv_8_goToPath_154 Q2 x2 u := (sw_wp fun _ => (zt_wp (hQ _ _)))
def pv_8_goToPath_90b (R90 : Int → iST → Prop) (Q : Int → iST → Prop) (x2 : Int) (u : iST) : Prop :=
  pv_7_isCallOf x2 3 (fun v9 u => 
  br (v9 = 0) (
    pv_8_goToPath_154 Q x2 u) (
    rd (u.1 33) (fun v10 => 
    br (64 ≤ v10) (
      pv_8_goToPath_154 Q x2 u) (
      rd (u.1 33) (fun v11 => 
      bdp v11 64 (sw (iA u 31 v11 x2) (fun u => 
      rd (u.1 33) (fun v12 => 
      ztp 0 (bdp v12 64 (sw (iA u 32 v12 0) (fun u => 
      rd (u.1 33) (fun v13 => 
      ovp (v13 + 1) (
      sw (iI u 33 (v13 + 1)) (fun u => 
      pv_7_item x2 2 (fun v15 u => 
      R90 v15 u) u)))))))))))))) u
theorem cj_v_8_goToPath_90b {Q1 Q2 Q3 : Int → iST → Prop} {R901 R902 R903 : Int → iST → Prop} {x2 : Int} {u : iST} (hR90 : ∀ r0 r1, R901 r0 r1 → R902 r0 r1 → R903 r0 r1) (hQ : ∀ r0 r1, Q1 r0 r1 → Q2 r0 r1 → Q3 r0 r1) : v_8_goToPath_90b R901 Q1 x2 u → pv_8_goToPath_90b R902 Q2 x2 u → v_8_goToPath_90b R903 Q3 x2 u := (cj_v_7_isCallOf (fun _ _ => (br_cj (cj_v_8_goToPath_154  hQ) (rd_cj fun _ => (br_cj (cj_v_8_goToPath_154  hQ) (rd_cj fun _ => (bd_cj (sw_cj fun _ => (rd_cj fun _ => (zt_cj (bd_cj (sw_cj fun _ => (rd_cj fun _ => (ov_cj (sw_cj fun _ => (cj_v_7_item (fun _ _ => (hR90 _ _))))))))))))))))))
theorem mn_v_8_goToPath_90b {Q1 Q2 : Int → iST → Prop} {R901 R902 : Int → iST → Prop} {x2 : Int} {u : iST} (hR90 : ∀ r0 r1, R901 r0 r1 → R902 r0 r1) (hQ : ∀ r0 r1, Q1 r0 r1 → Q2 r0 r1) : pv_8_goToPath_90b R901 Q1 x2 u → pv_8_goToPath_90b R902 Q2 x2 u := (mn_v_7_isCallOf (fun _ _ => (br_mn (mn_v_8_goToPath_154  hQ) (rd_mn fun _ => (br_mn (mn_v_8_goToPath_154  hQ) (rd_mn fun _ => (bd_mn (sw_mn fun _ => (rd_mn fun _ => (zt_mn (bd_mn (sw_mn fun _ => (rd_mn fun _ => (ov_mn (sw_mn fun _ => (mn_v_7_item (fun _ _ => (hR90 _ _))))))))))))))))))
theorem wp_v_8_goToPath_90b {Q1 Q2 : Int → iST → Prop} {R901 R902 : Int → iST → Prop} {x2 : Int} {u : iST} (hR90 : ∀ r0 r1, R901 r0 r1 → R902 r0 r1) (hQ : ∀ r0 r1, Q1 r0 r1 → Q2 r0 r1) : v_8_goToPath_90b R901 Q1 x2 u → pv_8_goToPath_90b R902 Q2 x2 u := (wp_v_7_isCallOf (fun _ _ => (br_wp (wp_v_8_goToPath_154  hQ) (rd_wp fun _ => (br_wp (wp_v_8_goToPath_154  hQ) (rd_wp fun _ => (bd_wp (sw_wp fun _ => (rd_wp fun _ => (zt_wp (bd_wp (sw_wp fun _ => (rd_wp fun _ => (ov_wp (sw_wp fun _ => (wp_v_7_item (fun _ _ => (hR90 _ _))))))))))))))))))
def pv_8_goToPath_90 (Q : Int → iST → Prop) (x2 : Int) (u : iST) : Prop := ∃ R90 : Int → iST → Prop, (∀ (x2 : Int) (u : iST), R90 x2 u → pv_8_goToPath_90b R90 Q x2 u) ∧ R90 x2 u
theorem cj_v_8_goToPath_90 {Q1 Q2 Q3 : Int → iST → Prop}  {x2 : Int} {u : iST} (hQ : ∀ r0 r1, Q1 r0 r1 → Q2 r0 r1 → Q3 r0 r1) : v_8_goToPath_90 Q1 x2 u → pv_8_goToPath_90 Q2 x2 u → v_8_goToPath_90 Q3 x2 u := by
  intro a b R3 c3
  obtain ⟨R2, c2, b2⟩ := b
  exact a (fun r0 r1 => R2 r0 r1 → R3 r0 r1) (fun r0 r1 a b => c3 r0 r1 (cj_v_8_goToPath_90b (fun r0 r1 a b => a b) hQ a (c2 r0 r1 b))) b2
theorem pv_8_goToPath_90_i  {Q : Int → iST → Prop} {x2 : Int} {u : iST} (I : Int → iST → Prop) (s : ∀ (x2 : Int) (u : iST), I x2 u → pv_8_goToPath_90b I Q x2 u) (h : I x2 u) : pv_8_goToPath_90 Q x2 u := ⟨I, s, h⟩
theorem mn_v_8_goToPath_90 {Q1 Q2 : Int → iST → Prop}  {x2 : Int} {u : iST} (hQ : ∀ r0 r1, Q1 r0 r1 → Q2 r0 r1) : pv_8_goToPath_90 Q1 x2 u → pv_8_goToPath_90 Q2 x2 u := fun ⟨R, s, h⟩ => ⟨R, fun r0 r1 a => mn_v_8_goToPath_90b (fun r0 r1 a => a) hQ (s r0 r1 a), h⟩
theorem un_v_8_goToPath_90  {Q : Int → iST → Prop} {x2 : Int} {u : iST} : pv_8_goToPath_90 Q x2 u → pv_8_goToPath_90b (fun x2 u => pv_8_goToPath_90 Q x2 u) Q x2 u := fun ⟨R, s, h⟩ => mn_v_8_goToPath_90b (fun r0 r1 a => ⟨R, s, a⟩) (fun _ _ h => h) (s _ _ h)
theorem fo_v_8_goToPath_90  {Q : Int → iST → Prop} {x2 : Int} {u : iST} : pv_8_goToPath_90b (fun x2 u => pv_8_goToPath_90 Q x2 u) Q x2 u → pv_8_goToPath_90 Q x2 u := fun h => ⟨fun x2 u => pv_8_goToPath_90b (fun x2 u => pv_8_goToPath_90 Q x2 u) Q x2 u, fun r0 r1 a => mn_v_8_goToPath_90b (fun r0 r1 a => un_v_8_goToPath_90 a) (fun _ _ h => h) a, h⟩
theorem wp_v_8_goToPath_90 {Q1 Q2 : Int → iST → Prop}  {x2 : Int} {u : iST} (hQ : ∀ r0 r1, Q1 r0 r1 → Q2 r0 r1) : v_8_goToPath_90 Q1 x2 u → pv_8_goToPath_90 Q2 x2 u := fun a => a (fun x2 u => pv_8_goToPath_90 Q2 x2 u) (fun x2 u b => fo_v_8_goToPath_90 (wp_v_8_goToPath_90b (fun r0 r1 a => a) hQ b))
def pv_8_goToPath_49 (Q : Int → iST → Prop) (u : iST) : Prop :=
  rd (u.1 33) (fun v2 => 
  br (v2 ≠ 0) (
    rd (u.1 33) (fun v3 => 
    ovp (v3 - 1) (
    ztp 1 (bdp (v3 - 1) 64 (sw (iA u 32 (v3 - 1) 1) (fun u => 
    rd (u.1 33) (fun v5 => 
    ovp (v5 - 1) (
    bdp (v5 - 1) 64 (rd (u.2.1 31 (v5 - 1)) (fun v7 => 
    pv_7_item v7 3 (fun v8 u => 
    pv_8_goToPath_90 Q v8 u) u)))))))))) (
    ztp 0 (Q 0 u)))
theorem cj_v_8_goToPath_49 {Q1 Q2 Q3 : Int → iST → Prop}  {u : iST} (hQ : ∀ r0 r1, Q1 r0 r1 → Q2 r0 r1 → Q3 r0 r1) : v_8_goToPath_49 Q1 u → pv_8_goToPath_49 Q2 u → v_8_goToPath_49 Q3 u := (rd_cj fun _ => (br_cj (rd_cj fun _ => (ov_cj (zt_cj (bd_cj (sw_cj fun _ => (rd_cj fun _ => (ov_cj (bd_cj (rd_cj fun _ => (cj_v_7_item (fun _ _ => (cj_v_8_goToPath_90  hQ)))))))))))) (zt_cj (hQ _ _))))
theorem mn_v_8_goToPath_49 {Q1 Q2 : Int → iST → Prop}  {u : iST} (hQ : ∀ r0 r1, Q1 r0 r1 → Q2 r0 r1) : pv_8_goToPath_49 Q1 u → pv_8_goToPath_49 Q2 u := (rd_mn fun _ => (br_mn (rd_mn fun _ => (ov_mn (zt_mn (bd_mn (sw_mn fun _ => (rd_mn fun _ => (ov_mn (bd_mn (rd_mn fun _ => (mn_v_7_item (fun _ _ => (mn_v_8_goToPath_90  hQ)))))))))))) (zt_mn (hQ _ _))))
theorem wp_v_8_goToPath_49 {Q1 Q2 : Int → iST → Prop}  {u : iST} (hQ : ∀ r0 r1, Q1 r0 r1 → Q2 r0 r1) : v_8_goToPath_49 Q1 u → pv_8_goToPath_49 Q2 u := (rd_wp fun _ => (br_wp (rd_wp fun _ => (ov_wp (zt_wp (bd_wp (sw_wp fun _ => (rd_wp fun _ => (ov_wp (bd_wp (rd_wp fun _ => (wp_v_7_item (fun _ _ => (wp_v_8_goToPath_90  hQ)))))))))))) (zt_wp (hQ _ _))))
def pv_8_goToPath_15b (R15 : iST → Prop) (Q : Int → iST → Prop) (u : iST) : Prop :=
  rd (u.1 33) (fun v1 => 
  br (v1 ≤ 0) (
    pv_8_goToPath_49 Q u) (
    rd (u.1 33) (fun v16 => 
    ovp (v16 - 1) (
    bdp (v16 - 1) 64 (rz (u.2.1 32 (v16 - 1)) (fun v18 => 
    br (v18 = 0) (
      pv_8_goToPath_49 Q u) (
      rd (u.1 33) (fun v19 => 
      ovp (v19 - 1) (
      sw (iI u 33 (v19 - 1)) (fun u => 
      R15 u))))))))))
theorem cj_v_8_goToPath_15b {Q1 Q2 Q3 : Int → iST → Prop} {R151 R152 R153 : iST → Prop} {u : iST} (hR15 : ∀ r0, R151 r0 → R152 r0 → R153 r0) (hQ : ∀ r0 r1, Q1 r0 r1 → Q2 r0 r1 → Q3 r0 r1) : v_8_goToPath_15b R151 Q1 u → pv_8_goToPath_15b R152 Q2 u → v_8_goToPath_15b R153 Q3 u := (rd_cj fun _ => (br_cj (cj_v_8_goToPath_49  hQ) (rd_cj fun _ => (ov_cj (bd_cj (rz_cj fun _ => (br_cj (cj_v_8_goToPath_49  hQ) (rd_cj fun _ => (ov_cj (sw_cj fun _ => (hR15 _)))))))))))
theorem mn_v_8_goToPath_15b {Q1 Q2 : Int → iST → Prop} {R151 R152 : iST → Prop} {u : iST} (hR15 : ∀ r0, R151 r0 → R152 r0) (hQ : ∀ r0 r1, Q1 r0 r1 → Q2 r0 r1) : pv_8_goToPath_15b R151 Q1 u → pv_8_goToPath_15b R152 Q2 u := (rd_mn fun _ => (br_mn (mn_v_8_goToPath_49  hQ) (rd_mn fun _ => (ov_mn (bd_mn (rz_mn fun _ => (br_mn (mn_v_8_goToPath_49  hQ) (rd_mn fun _ => (ov_mn (sw_mn fun _ => (hR15 _)))))))))))
theorem wp_v_8_goToPath_15b {Q1 Q2 : Int → iST → Prop} {R151 R152 : iST → Prop} {u : iST} (hR15 : ∀ r0, R151 r0 → R152 r0) (hQ : ∀ r0 r1, Q1 r0 r1 → Q2 r0 r1) : v_8_goToPath_15b R151 Q1 u → pv_8_goToPath_15b R152 Q2 u := (rd_wp fun _ => (br_wp (wp_v_8_goToPath_49  hQ) (rd_wp fun _ => (ov_wp (bd_wp (rz_wp fun _ => (br_wp (wp_v_8_goToPath_49  hQ) (rd_wp fun _ => (ov_wp (sw_wp fun _ => (hR15 _)))))))))))
def pv_8_goToPath_15 (Q : Int → iST → Prop) (u : iST) : Prop := ∃ R15 : iST → Prop, (∀ (u : iST), R15 u → pv_8_goToPath_15b R15 Q u) ∧ R15 u
theorem cj_v_8_goToPath_15 {Q1 Q2 Q3 : Int → iST → Prop}  {u : iST} (hQ : ∀ r0 r1, Q1 r0 r1 → Q2 r0 r1 → Q3 r0 r1) : v_8_goToPath_15 Q1 u → pv_8_goToPath_15 Q2 u → v_8_goToPath_15 Q3 u := by
  intro a b R3 c3
  obtain ⟨R2, c2, b2⟩ := b
  exact a (fun r0 => R2 r0 → R3 r0) (fun r0 a b => c3 r0 (cj_v_8_goToPath_15b (fun r0 a b => a b) hQ a (c2 r0 b))) b2
theorem pv_8_goToPath_15_i  {Q : Int → iST → Prop} {u : iST} (I : iST → Prop) (s : ∀ (u : iST), I u → pv_8_goToPath_15b I Q u) (h : I u) : pv_8_goToPath_15 Q u := ⟨I, s, h⟩
theorem mn_v_8_goToPath_15 {Q1 Q2 : Int → iST → Prop}  {u : iST} (hQ : ∀ r0 r1, Q1 r0 r1 → Q2 r0 r1) : pv_8_goToPath_15 Q1 u → pv_8_goToPath_15 Q2 u := fun ⟨R, s, h⟩ => ⟨R, fun r0 a => mn_v_8_goToPath_15b (fun r0 a => a) hQ (s r0 a), h⟩
theorem un_v_8_goToPath_15  {Q : Int → iST → Prop} {u : iST} : pv_8_goToPath_15 Q u → pv_8_goToPath_15b (fun u => pv_8_goToPath_15 Q u) Q u := fun ⟨R, s, h⟩ => mn_v_8_goToPath_15b (fun r0 a => ⟨R, s, a⟩) (fun _ _ h => h) (s _ h)
theorem fo_v_8_goToPath_15  {Q : Int → iST → Prop} {u : iST} : pv_8_goToPath_15b (fun u => pv_8_goToPath_15 Q u) Q u → pv_8_goToPath_15 Q u := fun h => ⟨fun u => pv_8_goToPath_15b (fun u => pv_8_goToPath_15 Q u) Q u, fun r0 a => mn_v_8_goToPath_15b (fun r0 a => un_v_8_goToPath_15 a) (fun _ _ h => h) a, h⟩
theorem wp_v_8_goToPath_15 {Q1 Q2 : Int → iST → Prop}  {u : iST} (hQ : ∀ r0 r1, Q1 r0 r1 → Q2 r0 r1) : v_8_goToPath_15 Q1 u → pv_8_goToPath_15 Q2 u := fun a => a (fun u => pv_8_goToPath_15 Q2 u) (fun u b => fo_v_8_goToPath_15 (wp_v_8_goToPath_15b (fun r0 a => a) hQ b))
def pv_8_goToPath (a0 : Int) (Q : Int → iST → Prop) (u : iST) : Prop :=
  br (a0 = (-1)) (
    pv_8_goToPath_15 Q u) (
    sw (iI u 33 0) (fun u => 
    pv_8_goToPath_90 Q a0 u))
theorem cj_v_8_goToPath {Q1 Q2 Q3 : Int → iST → Prop}  {a0 : Int} {u : iST} (hQ : ∀ r0 r1, Q1 r0 r1 → Q2 r0 r1 → Q3 r0 r1) : v_8_goToPath a0 Q1 u → pv_8_goToPath a0 Q2 u → v_8_goToPath a0 Q3 u := (br_cj (cj_v_8_goToPath_15  hQ) (sw_cj fun _ => (cj_v_8_goToPath_90  hQ)))
theorem mn_v_8_goToPath {Q1 Q2 : Int → iST → Prop}  {a0 : Int} {u : iST} (hQ : ∀ r0 r1, Q1 r0 r1 → Q2 r0 r1) : pv_8_goToPath a0 Q1 u → pv_8_goToPath a0 Q2 u := (br_mn (mn_v_8_goToPath_15  hQ) (sw_mn fun _ => (mn_v_8_goToPath_90  hQ)))
theorem wp_v_8_goToPath {Q1 Q2 : Int → iST → Prop}  {a0 : Int} {u : iST} (hQ : ∀ r0 r1, Q1 r0 r1 → Q2 r0 r1) : v_8_goToPath a0 Q1 u → pv_8_goToPath a0 Q2 u := (br_wp (wp_v_8_goToPath_15  hQ) (sw_wp fun _ => (wp_v_8_goToPath_90  hQ)))
def pv_8_countPaths_8b (R8 : Int → Int → iST → Prop) (Q : Int → iST → Prop) (x2 : Int) (x3 : Int) (u : iST) : Prop :=
  br (1000000 ≤ x2) (
    Q x2 u) (
    br (x3 = 0) (
      Q x2 u) (
      ovp (x2 + 1) (
      pv_8_goToPath (-1) (fun v3 u => 
      R8 (x2 + 1) v3 u) u)))
theorem cj_v_8_countPaths_8b {Q1 Q2 Q3 : Int → iST → Prop} {R81 R82 R83 : Int → Int → iST → Prop} {x2 : Int} {x3 : Int} {u : iST} (hR8 : ∀ r0 r1 r2, R81 r0 r1 r2 → R82 r0 r1 r2 → R83 r0 r1 r2) (hQ : ∀ r0 r1, Q1 r0 r1 → Q2 r0 r1 → Q3 r0 r1) : v_8_countPaths_8b R81 Q1 x2 x3 u → pv_8_countPaths_8b R82 Q2 x2 x3 u → v_8_countPaths_8b R83 Q3 x2 x3 u := (br_cj (hQ _ _) (br_cj (hQ _ _) (ov_cj (cj_v_8_goToPath (fun _ _ => (hR8 _ _ _))))))
theorem mn_v_8_countPaths_8b {Q1 Q2 : Int → iST → Prop} {R81 R82 : Int → Int → iST → Prop} {x2 : Int} {x3 : Int} {u : iST} (hR8 : ∀ r0 r1 r2, R81 r0 r1 r2 → R82 r0 r1 r2) (hQ : ∀ r0 r1, Q1 r0 r1 → Q2 r0 r1) : pv_8_countPaths_8b R81 Q1 x2 x3 u → pv_8_countPaths_8b R82 Q2 x2 x3 u := (br_mn (hQ _ _) (br_mn (hQ _ _) (ov_mn (mn_v_8_goToPath (fun _ _ => (hR8 _ _ _))))))
theorem wp_v_8_countPaths_8b {Q1 Q2 : Int → iST → Prop} {R81 R82 : Int → Int → iST → Prop} {x2 : Int} {x3 : Int} {u : iST} (hR8 : ∀ r0 r1 r2, R81 r0 r1 r2 → R82 r0 r1 r2) (hQ : ∀ r0 r1, Q1 r0 r1 → Q2 r0 r1) : v_8_countPaths_8b R81 Q1 x2 x3 u → pv_8_countPaths_8b R82 Q2 x2 x3 u := (br_wp (hQ _ _) (br_wp (hQ _ _) (ov_wp (wp_v_8_goToPath (fun _ _ => (hR8 _ _ _))))))
def pv_8_countPaths_8 (Q : Int → iST → Prop) (x2 : Int) (x3 : Int) (u : iST) : Prop := ∃ R8 : Int → Int → iST → Prop, (∀ (x2 : Int) (x3 : Int) (u : iST), R8 x2 x3 u → pv_8_countPaths_8b R8 Q x2 x3 u) ∧ R8 x2 x3 u
theorem cj_v_8_countPaths_8 {Q1 Q2 Q3 : Int → iST → Prop}  {x2 : Int} {x3 : Int} {u : iST} (hQ : ∀ r0 r1, Q1 r0 r1 → Q2 r0 r1 → Q3 r0 r1) : v_8_countPaths_8 Q1 x2 x3 u → pv_8_countPaths_8 Q2 x2 x3 u → v_8_countPaths_8 Q3 x2 x3 u := by
  intro a b R3 c3
  obtain ⟨R2, c2, b2⟩ := b
  exact a (fun r0 r1 r2 => R2 r0 r1 r2 → R3 r0 r1 r2) (fun r0 r1 r2 a b => c3 r0 r1 r2 (cj_v_8_countPaths_8b (fun r0 r1 r2 a b => a b) hQ a (c2 r0 r1 r2 b))) b2
theorem pv_8_countPaths_8_i  {Q : Int → iST → Prop} {x2 : Int} {x3 : Int} {u : iST} (I : Int → Int → iST → Prop) (s : ∀ (x2 : Int) (x3 : Int) (u : iST), I x2 x3 u → pv_8_countPaths_8b I Q x2 x3 u) (h : I x2 x3 u) : pv_8_countPaths_8 Q x2 x3 u := ⟨I, s, h⟩
theorem mn_v_8_countPaths_8 {Q1 Q2 : Int → iST → Prop}  {x2 : Int} {x3 : Int} {u : iST} (hQ : ∀ r0 r1, Q1 r0 r1 → Q2 r0 r1) : pv_8_countPaths_8 Q1 x2 x3 u → pv_8_countPaths_8 Q2 x2 x3 u := fun ⟨R, s, h⟩ => ⟨R, fun r0 r1 r2 a => mn_v_8_countPaths_8b (fun r0 r1 r2 a => a) hQ (s r0 r1 r2 a), h⟩
theorem un_v_8_countPaths_8  {Q : Int → iST → Prop} {x2 : Int} {x3 : Int} {u : iST} : pv_8_countPaths_8 Q x2 x3 u → pv_8_countPaths_8b (fun x2 x3 u => pv_8_countPaths_8 Q x2 x3 u) Q x2 x3 u := fun ⟨R, s, h⟩ => mn_v_8_countPaths_8b (fun r0 r1 r2 a => ⟨R, s, a⟩) (fun _ _ h => h) (s _ _ _ h)
theorem fo_v_8_countPaths_8  {Q : Int → iST → Prop} {x2 : Int} {x3 : Int} {u : iST} : pv_8_countPaths_8b (fun x2 x3 u => pv_8_countPaths_8 Q x2 x3 u) Q x2 x3 u → pv_8_countPaths_8 Q x2 x3 u := fun h => ⟨fun x2 x3 u => pv_8_countPaths_8b (fun x2 x3 u => pv_8_countPaths_8 Q x2 x3 u) Q x2 x3 u, fun r0 r1 r2 a => mn_v_8_countPaths_8b (fun r0 r1 r2 a => un_v_8_countPaths_8 a) (fun _ _ h => h) a, h⟩
theorem wp_v_8_countPaths_8 {Q1 Q2 : Int → iST → Prop}  {x2 : Int} {x3 : Int} {u : iST} (hQ : ∀ r0 r1, Q1 r0 r1 → Q2 r0 r1) : v_8_countPaths_8 Q1 x2 x3 u → pv_8_countPaths_8 Q2 x2 x3 u := fun a => a (fun x2 x3 u => pv_8_countPaths_8 Q2 x2 x3 u) (fun x2 x3 u b => fo_v_8_countPaths_8 (wp_v_8_countPaths_8b (fun r0 r1 r2 a => a) hQ b))
def pv_8_countPaths (a0 : Int) (Q : Int → iST → Prop) (u : iST) : Prop :=
  pv_8_goToPath a0 (fun v1 u => 
  pv_8_countPaths_8 Q 0 v1 u) u
theorem cj_v_8_countPaths {Q1 Q2 Q3 : Int → iST → Prop}  {a0 : Int} {u : iST} (hQ : ∀ r0 r1, Q1 r0 r1 → Q2 r0 r1 → Q3 r0 r1) : v_8_countPaths a0 Q1 u → pv_8_countPaths a0 Q2 u → v_8_countPaths a0 Q3 u := (cj_v_8_goToPath (fun _ _ => (cj_v_8_countPaths_8  hQ)))
theorem mn_v_8_countPaths {Q1 Q2 : Int → iST → Prop}  {a0 : Int} {u : iST} (hQ : ∀ r0 r1, Q1 r0 r1 → Q2 r0 r1) : pv_8_countPaths a0 Q1 u → pv_8_countPaths a0 Q2 u := (mn_v_8_goToPath (fun _ _ => (mn_v_8_countPaths_8  hQ)))
theorem wp_v_8_countPaths {Q1 Q2 : Int → iST → Prop}  {a0 : Int} {u : iST} (hQ : ∀ r0 r1, Q1 r0 r1 → Q2 r0 r1) : v_8_countPaths a0 Q1 u → pv_8_countPaths a0 Q2 u := (wp_v_8_goToPath (fun _ _ => (wp_v_8_countPaths_8  hQ)))
def pv_3_isInduction (a0 : Int) (Q : Int → iST → Prop) (u : iST) : Prop :=
  pv_7_item a0 2 (fun v1 u => 
  pv_8_inductionAsked v1 (fun v2 u => 
  br (v2 = 0) (
    pv_7_left v1 (fun v3 u => 
    pv_0_functionOf v3 (fun v4 u => 
    pv_7_lengthOf a0 (fun v5 u => 
    bdp 15 16 (rd (yT_LENGTHS.getD (15 : Int).toNat 0) (fun v6 => 
    ovp (v5 - v6) (
    br (v4 = (-1)) (
      ztp 0 (Q 0 u)) (
      bdp v4 40 (rd (u.2.1 3 v4) (fun v8 => 
      pv_8_countPaths v8 (fun v9 u => 
      br ((v5 - v6) ≠ v9) (
        ztp 0 (Q 0 u)) (
        ztp 1 (Q 1 u))) u))))))) u) u) u) (
    ztp 0 (Q 0 u))) u) u
theorem cj_v_3_isInduction {Q1 Q2 Q3 : Int → iST → Prop}  {a0 : Int} {u : iST} (hQ : ∀ r0 r1, Q1 r0 r1 → Q2 r0 r1 → Q3 r0 r1) : v_3_isInduction a0 Q1 u → pv_3_isInduction a0 Q2 u → v_3_isInduction a0 Q3 u := (cj_v_7_item (fun _ _ => (cj_v_8_inductionAsked (fun _ _ => (br_cj (cj_v_7_left (fun _ _ => (cj_v_0_functionOf (fun _ _ => (cj_v_7_lengthOf (fun _ _ => (bd_cj (rd_cj fun _ => (ov_cj (br_cj (zt_cj (hQ _ _)) (bd_cj (rd_cj fun _ => (cj_v_8_countPaths (fun _ _ => (br_cj (zt_cj (hQ _ _)) (zt_cj (hQ _ _))))))))))))))))) (zt_cj (hQ _ _)))))))
theorem mn_v_3_isInduction {Q1 Q2 : Int → iST → Prop}  {a0 : Int} {u : iST} (hQ : ∀ r0 r1, Q1 r0 r1 → Q2 r0 r1) : pv_3_isInduction a0 Q1 u → pv_3_isInduction a0 Q2 u := (mn_v_7_item (fun _ _ => (mn_v_8_inductionAsked (fun _ _ => (br_mn (mn_v_7_left (fun _ _ => (mn_v_0_functionOf (fun _ _ => (mn_v_7_lengthOf (fun _ _ => (bd_mn (rd_mn fun _ => (ov_mn (br_mn (zt_mn (hQ _ _)) (bd_mn (rd_mn fun _ => (mn_v_8_countPaths (fun _ _ => (br_mn (zt_mn (hQ _ _)) (zt_mn (hQ _ _))))))))))))))))) (zt_mn (hQ _ _)))))))
theorem wp_v_3_isInduction {Q1 Q2 : Int → iST → Prop}  {a0 : Int} {u : iST} (hQ : ∀ r0 r1, Q1 r0 r1 → Q2 r0 r1) : v_3_isInduction a0 Q1 u → pv_3_isInduction a0 Q2 u := (wp_v_7_item (fun _ _ => (wp_v_8_inductionAsked (fun _ _ => (br_wp (wp_v_7_left (fun _ _ => (wp_v_0_functionOf (fun _ _ => (wp_v_7_lengthOf (fun _ _ => (bd_wp (rd_wp fun _ => (ov_wp (br_wp (zt_wp (hQ _ _)) (bd_wp (rd_wp fun _ => (wp_v_8_countPaths (fun _ _ => (br_wp (zt_wp (hQ _ _)) (zt_wp (hQ _ _))))))))))))))))) (zt_wp (hQ _ _)))))))
def pv_3_isWholeFormed (a0 : Int) (Q : Int → iST → Prop) (u : iST) : Prop :=
  pv_7_left a0 (fun v1 u => 
  br (v1 = 30) (
    pv_3_valueAt a0 (fun v2 u => 
    br (v2 = (-1)) (
      ztp 0 (Q 0 u)) (
      ztp 1 (Q 1 u))) u) (
  br (v1 = 31) (
    ztp 1 (Q 1 u)) (
  br (v1 = 32) (
    ztp 1 (Q 1 u)) (
  br (v1 = 33) (
    ztp 1 (Q 1 u)) (
  br (v1 = 34) (
    ztp 1 (Q 1 u)) (
  br (v1 = 35) (
    ztp 1 (Q 1 u)) (
  br (v1 = 36) (
    pv_7_item a0 1 (fun v9 u => 
    pv_0_functionOf v9 (fun v10 u => 
    br (v10 = (-1)) (
      ztp 0 (Q 0 u)) (
      ztp 1 (Q 1 u))) u) u) (
  br (v1 = 37) (
    pv_7_item a0 1 (fun v12 u => 
    pv_0_theoremOf v12 (fun v13 u => 
    br (v13 = (-1)) (
      ztp 0 (Q 0 u)) (
      ztp 1 (Q 1 u))) u) u) (
  br (v1 = 38) (
    pv_7_item a0 1 (fun v15 u => 
    pv_3_isListOfTerms v15 (fun v16 u => 
    ztp v16 (Q v16 u)) u) u) (
  br (v1 = 39) (
    ztp 1 (Q 1 u)) (
  br (v1 = 40) (
    pv_7_right a0 (fun v19 u => 
    pv_7_right v19 (fun v20 u => 
    pv_10_bindPairs v20 (fun v21 u => 
    ztp v21 (Q v21 u)) u) u) u) (
  br (v1 = 41) (
    ztp 1 (Q 1 u)) (
  br (v1 = 42) (
    ztp 1 (Q 1 u)) (
  br (v1 = 43) (
    pv_3_isInduction a0 (fun v25 u => 
    ztp v25 (Q v25 u)) u) (
  ztp 1 (Q 1 u)))))))))))))))) u
theorem cj_v_3_isWholeFormed {Q1 Q2 Q3 : Int → iST → Prop}  {a0 : Int} {u : iST} (hQ : ∀ r0 r1, Q1 r0 r1 → Q2 r0 r1 → Q3 r0 r1) : v_3_isWholeFormed a0 Q1 u → pv_3_isWholeFormed a0 Q2 u → v_3_isWholeFormed a0 Q3 u := (cj_v_7_left (fun _ _ => (br_cj (cj_v_3_valueAt (fun _ _ => (br_cj (zt_cj (hQ _ _)) (zt_cj (hQ _ _))))) (br_cj (zt_cj (hQ _ _)) (br_cj (zt_cj (hQ _ _)) (br_cj (zt_cj (hQ _ _)) (br_cj (zt_cj (hQ _ _)) (br_cj (zt_cj (hQ _ _)) (br_cj (cj_v_7_item (fun _ _ => (cj_v_0_functionOf (fun _ _ => (br_cj (zt_cj (hQ _ _)) (zt_cj (hQ _ _))))))) (br_cj (cj_v_7_item (fun _ _ => (cj_v_0_theoremOf (fun _ _ => (br_cj (zt_cj (hQ _ _)) (zt_cj (hQ _ _))))))) (br_cj (cj_v_7_item (fun _ _ => (cj_v_3_isListOfTerms (fun _ _ => (zt_cj (hQ _ _)))))) (br_cj (zt_cj (hQ _ _)) (br_cj (cj_v_7_right (fun _ _ => (cj_v_7_right (fun _ _ => (cj_v_10_bindPairs (fun _ _ => (zt_cj (hQ _ _)))))))) (br_cj (zt_cj (hQ _ _)) (br_cj (zt_cj (hQ _ _)) (br_cj (cj_v_3_isInduction (fun _ _ => (zt_cj (hQ _ _)))) (zt_cj (hQ _ _))))))))))))))))))
theorem mn_v_3_isWholeFormed {Q1 Q2 : Int → iST → Prop}  {a0 : Int} {u : iST} (hQ : ∀ r0 r1, Q1 r0 r1 → Q2 r0 r1) : pv_3_isWholeFormed a0 Q1 u → pv_3_isWholeFormed a0 Q2 u := (mn_v_7_left (fun _ _ => (br_mn (mn_v_3_valueAt (fun _ _ => (br_mn (zt_mn (hQ _ _)) (zt_mn (hQ _ _))))) (br_mn (zt_mn (hQ _ _)) (br_mn (zt_mn (hQ _ _)) (br_mn (zt_mn (hQ _ _)) (br_mn (zt_mn (hQ _ _)) (br_mn (zt_mn (hQ _ _)) (br_mn (mn_v_7_item (fun _ _ => (mn_v_0_functionOf (fun _ _ => (br_mn (zt_mn (hQ _ _)) (zt_mn (hQ _ _))))))) (br_mn (mn_v_7_item (fun _ _ => (mn_v_0_theoremOf (fun _ _ => (br_mn (zt_mn (hQ _ _)) (zt_mn (hQ _ _))))))) (br_mn (mn_v_7_item (fun _ _ => (mn_v_3_isListOfTerms (fun _ _ => (zt_mn (hQ _ _)))))) (br_mn (zt_mn (hQ _ _)) (br_mn (mn_v_7_right (fun _ _ => (mn_v_7_right (fun _ _ => (mn_v_10_bindPairs (fun _ _ => (zt_mn (hQ _ _)))))))) (br_mn (zt_mn (hQ _ _)) (br_mn (zt_mn (hQ _ _)) (br_mn (mn_v_3_isInduction (fun _ _ => (zt_mn (hQ _ _)))) (zt_mn (hQ _ _))))))))))))))))))
theorem wp_v_3_isWholeFormed {Q1 Q2 : Int → iST → Prop}  {a0 : Int} {u : iST} (hQ : ∀ r0 r1, Q1 r0 r1 → Q2 r0 r1) : v_3_isWholeFormed a0 Q1 u → pv_3_isWholeFormed a0 Q2 u := (wp_v_7_left (fun _ _ => (br_wp (wp_v_3_valueAt (fun _ _ => (br_wp (zt_wp (hQ _ _)) (zt_wp (hQ _ _))))) (br_wp (zt_wp (hQ _ _)) (br_wp (zt_wp (hQ _ _)) (br_wp (zt_wp (hQ _ _)) (br_wp (zt_wp (hQ _ _)) (br_wp (zt_wp (hQ _ _)) (br_wp (wp_v_7_item (fun _ _ => (wp_v_0_functionOf (fun _ _ => (br_wp (zt_wp (hQ _ _)) (zt_wp (hQ _ _))))))) (br_wp (wp_v_7_item (fun _ _ => (wp_v_0_theoremOf (fun _ _ => (br_wp (zt_wp (hQ _ _)) (zt_wp (hQ _ _))))))) (br_wp (wp_v_7_item (fun _ _ => (wp_v_3_isListOfTerms (fun _ _ => (zt_wp (hQ _ _)))))) (br_wp (zt_wp (hQ _ _)) (br_wp (wp_v_7_right (fun _ _ => (wp_v_7_right (fun _ _ => (wp_v_10_bindPairs (fun _ _ => (zt_wp (hQ _ _)))))))) (br_wp (zt_wp (hQ _ _)) (br_wp (zt_wp (hQ _ _)) (br_wp (wp_v_3_isInduction (fun _ _ => (zt_wp (hQ _ _)))) (zt_wp (hQ _ _))))))))))))))))))
def pv_3_open_45 (Q : iST → Prop) (x1 : Int) (u : iST) : Prop :=
  sw (iI u 12 x1) (fun u => 
  Q u)
theorem cj_v_3_open_45 {Q1 Q2 Q3 : iST → Prop}  {x1 : Int} {u : iST} (hQ : ∀ r0, Q1 r0 → Q2 r0 → Q3 r0) : v_3_open_45 Q1 x1 u → pv_3_open_45 Q2 x1 u → v_3_open_45 Q3 x1 u := (sw_cj fun _ => (hQ _))
theorem mn_v_3_open_45 {Q1 Q2 : iST → Prop}  {x1 : Int} {u : iST} (hQ : ∀ r0, Q1 r0 → Q2 r0) : pv_3_open_45 Q1 x1 u → pv_3_open_45 Q2 x1 u := (sw_mn fun _ => (hQ _))
theorem wp_v_3_open_45 {Q1 Q2 : iST → Prop}  {x1 : Int} {u : iST} (hQ : ∀ r0, Q1 r0 → Q2 r0) : v_3_open_45 Q1 x1 u → pv_3_open_45 Q2 x1 u := (sw_wp fun _ => (hQ _))
def pv_3_open_117 (Q : iST → Prop) (x2 : Int) (x3 : Int) (y0 : Int) (y1 : Int) (y2 : Int) (u : iST) : Prop :=
  bdp y1 4 (sw (iA u 53 (4 * y0 + y1) y2) (fun u => 
  bdp x2 16 (rd (yT_FIRST_PARTS.getD x2.toNat 0) (fun v13 => 
  bdp 2 4 (sw (iA u 53 (4 * x3 + 2) v13) (fun u => 
  rd (u.1 11) (fun v14 => 
  bdp 3 4 (sw (iA u 53 (4 * x3 + 3) v14) (fun u => 
  Q u)))))))))
theorem cj_v_3_open_117 {Q1 Q2 Q3 : iST → Prop}  {x2 : Int} {x3 : Int} {y0 : Int} {y1 : Int} {y2 : Int} {u : iST} (hQ : ∀ r0, Q1 r0 → Q2 r0 → Q3 r0) : v_3_open_117 Q1 x2 x3 y0 y1 y2 u → pv_3_open_117 Q2 x2 x3 y0 y1 y2 u → v_3_open_117 Q3 x2 x3 y0 y1 y2 u := (bd_cj (sw_cj fun _ => (bd_cj (rd_cj fun _ => (bd_cj (sw_cj fun _ => (rd_cj fun _ => (bd_cj (sw_cj fun _ => (hQ _))))))))))
theorem mn_v_3_open_117 {Q1 Q2 : iST → Prop}  {x2 : Int} {x3 : Int} {y0 : Int} {y1 : Int} {y2 : Int} {u : iST} (hQ : ∀ r0, Q1 r0 → Q2 r0) : pv_3_open_117 Q1 x2 x3 y0 y1 y2 u → pv_3_open_117 Q2 x2 x3 y0 y1 y2 u := (bd_mn (sw_mn fun _ => (bd_mn (rd_mn fun _ => (bd_mn (sw_mn fun _ => (rd_mn fun _ => (bd_mn (sw_mn fun _ => (hQ _))))))))))
theorem wp_v_3_open_117 {Q1 Q2 : iST → Prop}  {x2 : Int} {x3 : Int} {y0 : Int} {y1 : Int} {y2 : Int} {u : iST} (hQ : ∀ r0, Q1 r0 → Q2 r0) : v_3_open_117 Q1 x2 x3 y0 y1 y2 u → pv_3_open_117 Q2 x2 x3 y0 y1 y2 u := (bd_wp (sw_wp fun _ => (bd_wp (rd_wp fun _ => (bd_wp (sw_wp fun _ => (rd_wp fun _ => (bd_wp (sw_wp fun _ => (hQ _))))))))))
def pv_3_open (a0 : Int) (Q : iST → Prop) (u : iST) : Prop :=
  rd (u.1 10) (fun v1 => 
  br (v1 < 40) (
    pv_7_step (fun v2 u => 
    br (v2 ≠ 0) (
      pv_3_isFormed a0 (fun v3 u => 
      br (v3 = 0) (
        pv_3_open_45 Q a0 u) (
        pv_3_isWholeFormed a0 (fun v4 u => 
        br (v4 ≠ 0) (
          pv_7_left a0 (fun v5 u => 
          ovp (v5 - 28) (
          rd (u.1 10) (fun v7 => 
          bdp v7 40 (
          rd (u.1 10) (fun v10 => 
          ovp (v10 + 1) (
          sw (iI u 10 (v10 + 1)) (fun u => 
          bdp 0 4 (sw (iA u 53 (4 * v7 + 0) a0) (fun u => 
          br ((v5 - 28) ≠ 15) (
            bdp (v5 - 28) 16 (rd (yT_PART_COUNTS.getD (v5 - 28).toNat 0) (fun v12 => 
            pv_3_open_117 Q (v5 - 28) v7 v7 1 v12 u))) (
            pv_7_lengthOf a0 (fun v15 u => 
            bdp (v5 - 28) 16 (rd (yT_LENGTHS.getD (v5 - 28).toNat 0) (fun v16 => 
            ovp (v15 - v16) (
            pv_3_open_117 Q (v5 - 28) v7 v7 1 (v15 - v16) u)))) u)))))))))) u) (
          pv_3_open_45 Q a0 u)) u)) u) (
      Q u)) u) (
    pv_7_blame 2 (fun u => 
    Q u) u))
theorem cj_v_3_open {Q1 Q2 Q3 : iST → Prop}  {a0 : Int} {u : iST} (hQ : ∀ r0, Q1 r0 → Q2 r0 → Q3 r0) : v_3_open a0 Q1 u → pv_3_open a0 Q2 u → v_3_open a0 Q3 u := (rd_cj fun _ => (br_cj (cj_v_7_step (fun _ _ => (br_cj (cj_v_3_isFormed (fun _ _ => (br_cj (cj_v_3_open_45  hQ) (cj_v_3_isWholeFormed (fun _ _ => (br_cj (cj_v_7_left (fun _ _ => (ov_cj (rd_cj fun _ => (bd_cj (rd_cj fun _ => (ov_cj (sw_cj fun _ => (bd_cj (sw_cj fun _ => (br_cj (bd_cj (rd_cj fun _ => (cj_v_3_open_117  hQ))) (cj_v_7_lengthOf (fun _ _ => (bd_cj (rd_cj fun _ => (ov_cj (cj_v_3_open_117  hQ))))))))))))))))) (cj_v_3_open_45  hQ))))))) (hQ _)))) (cj_v_7_blame (fun _ => (hQ _)))))
theorem mn_v_3_open {Q1 Q2 : iST → Prop}  {a0 : Int} {u : iST} (hQ : ∀ r0, Q1 r0 → Q2 r0) : pv_3_open a0 Q1 u → pv_3_open a0 Q2 u := (rd_mn fun _ => (br_mn (mn_v_7_step (fun _ _ => (br_mn (mn_v_3_isFormed (fun _ _ => (br_mn (mn_v_3_open_45  hQ) (mn_v_3_isWholeFormed (fun _ _ => (br_mn (mn_v_7_left (fun _ _ => (ov_mn (rd_mn fun _ => (bd_mn (rd_mn fun _ => (ov_mn (sw_mn fun _ => (bd_mn (sw_mn fun _ => (br_mn (bd_mn (rd_mn fun _ => (mn_v_3_open_117  hQ))) (mn_v_7_lengthOf (fun _ _ => (bd_mn (rd_mn fun _ => (ov_mn (mn_v_3_open_117  hQ))))))))))))))))) (mn_v_3_open_45  hQ))))))) (hQ _)))) (mn_v_7_blame (fun _ => (hQ _)))))
theorem wp_v_3_open {Q1 Q2 : iST → Prop}  {a0 : Int} {u : iST} (hQ : ∀ r0, Q1 r0 → Q2 r0) : v_3_open a0 Q1 u → pv_3_open a0 Q2 u := (rd_wp fun _ => (br_wp (wp_v_7_step (fun _ _ => (br_wp (wp_v_3_isFormed (fun _ _ => (br_wp (wp_v_3_open_45  hQ) (wp_v_3_isWholeFormed (fun _ _ => (br_wp (wp_v_7_left (fun _ _ => (ov_wp (rd_wp fun _ => (bd_wp (rd_wp fun _ => (ov_wp (sw_wp fun _ => (bd_wp (sw_wp fun _ => (br_wp (bd_wp (rd_wp fun _ => (wp_v_3_open_117  hQ))) (wp_v_7_lengthOf (fun _ _ => (bd_wp (rd_wp fun _ => (ov_wp (wp_v_3_open_117  hQ))))))))))))))))) (wp_v_3_open_45  hQ))))))) (hQ _)))) (wp_v_7_blame (fun _ => (hQ _)))))
def pv_10_join (a0 : Int) (a1 : Int) (Q : iST → Prop) (u : iST) : Prop :=
  br (a1 = (-1)) (
    Q u) (
    rd (u.2.1 46 a0) (fun v1 => 
    pv_7_sizeOf a1 (fun v2 u => 
    pv_1_insert a0 v1 a1 v2 (fun v3 u => 
    br (v3 ≠ 0) (
      Q u) (
      pv_7_blame 4 (fun u => 
      Q u) u)) u) u))
theorem cj_v_10_join {Q1 Q2 Q3 : iST → Prop}  {a0 : Int} {a1 : Int} {u : iST} (hQ : ∀ r0, Q1 r0 → Q2 r0 → Q3 r0) : v_10_join a0 a1 Q1 u → pv_10_join a0 a1 Q2 u → v_10_join a0 a1 Q3 u := (br_cj (hQ _) (rd_cj fun _ => (cj_v_7_sizeOf (fun _ _ => (cj_v_1_insert (fun _ _ => (br_cj (hQ _) (cj_v_7_blame (fun _ => (hQ _))))))))))
theorem mn_v_10_join {Q1 Q2 : iST → Prop}  {a0 : Int} {a1 : Int} {u : iST} (hQ : ∀ r0, Q1 r0 → Q2 r0) : pv_10_join a0 a1 Q1 u → pv_10_join a0 a1 Q2 u := (br_mn (hQ _) (rd_mn fun _ => (mn_v_7_sizeOf (fun _ _ => (mn_v_1_insert (fun _ _ => (br_mn (hQ _) (mn_v_7_blame (fun _ => (hQ _))))))))))
theorem wp_v_10_join {Q1 Q2 : iST → Prop}  {a0 : Int} {a1 : Int} {u : iST} (hQ : ∀ r0, Q1 r0 → Q2 r0) : v_10_join a0 a1 Q1 u → pv_10_join a0 a1 Q2 u := (br_wp (hQ _) (rd_wp fun _ => (wp_v_7_sizeOf (fun _ _ => (wp_v_1_insert (fun _ _ => (br_wp (hQ _) (wp_v_7_blame (fun _ => (hQ _))))))))))
def pv_10_call_48 (Q : Int → iST → Prop) (x1 : Int) (x2 : Int) (y0 : Int) (u : iST) : Prop :=
  pv_11_pairCell x2 y0 (fun v5 u => 
  pv_7_made v5 (fun v6 u => 
  pv_11_pairCell x1 v6 (fun v7 u => 
  pv_7_made v7 (fun v8 u => 
  pv_7_sizeOf v8 (fun v9 u => 
  br (v9 ≤ 120) (
    Q v8 u) (
    pv_7_blame 4 (fun u => 
    Q (-1) u) u)) u) u) u) u) u
theorem cj_v_10_call_48 {Q1 Q2 Q3 : Int → iST → Prop}  {x1 : Int} {x2 : Int} {y0 : Int} {u : iST} (hQ : ∀ r0 r1, Q1 r0 r1 → Q2 r0 r1 → Q3 r0 r1) : v_10_call_48 Q1 x1 x2 y0 u → pv_10_call_48 Q2 x1 x2 y0 u → v_10_call_48 Q3 x1 x2 y0 u := (cj_v_11_pairCell (fun _ _ => (cj_v_7_made (fun _ _ => (cj_v_11_pairCell (fun _ _ => (cj_v_7_made (fun _ _ => (cj_v_7_sizeOf (fun _ _ => (br_cj (hQ _ _) (cj_v_7_blame (fun _ => (hQ _ _))))))))))))))
theorem mn_v_10_call_48 {Q1 Q2 : Int → iST → Prop}  {x1 : Int} {x2 : Int} {y0 : Int} {u : iST} (hQ : ∀ r0 r1, Q1 r0 r1 → Q2 r0 r1) : pv_10_call_48 Q1 x1 x2 y0 u → pv_10_call_48 Q2 x1 x2 y0 u := (mn_v_11_pairCell (fun _ _ => (mn_v_7_made (fun _ _ => (mn_v_11_pairCell (fun _ _ => (mn_v_7_made (fun _ _ => (mn_v_7_sizeOf (fun _ _ => (br_mn (hQ _ _) (mn_v_7_blame (fun _ => (hQ _ _))))))))))))))
theorem wp_v_10_call_48 {Q1 Q2 : Int → iST → Prop}  {x1 : Int} {x2 : Int} {y0 : Int} {u : iST} (hQ : ∀ r0 r1, Q1 r0 r1 → Q2 r0 r1) : v_10_call_48 Q1 x1 x2 y0 u → pv_10_call_48 Q2 x1 x2 y0 u := (wp_v_11_pairCell (fun _ _ => (wp_v_7_made (fun _ _ => (wp_v_11_pairCell (fun _ _ => (wp_v_7_made (fun _ _ => (wp_v_7_sizeOf (fun _ _ => (br_wp (hQ _ _) (wp_v_7_blame (fun _ => (hQ _ _))))))))))))))
def pv_10_call_23 (Q : Int → iST → Prop) (x1 : Int) (x2 : Int) (x3 : Int) (y0 : Int) (u : iST) : Prop :=
  br (x3 ≠ (-1)) (
    pv_11_pairCell x3 y0 (fun v3 u => 
    pv_7_made v3 (fun v4 u => 
    pv_10_call_48 Q x1 x2 v4 u) u) u) (
    pv_10_call_48 Q x1 x2 y0 u)
theorem cj_v_10_call_23 {Q1 Q2 Q3 : Int → iST → Prop}  {x1 : Int} {x2 : Int} {x3 : Int} {y0 : Int} {u : iST} (hQ : ∀ r0 r1, Q1 r0 r1 → Q2 r0 r1 → Q3 r0 r1) : v_10_call_23 Q1 x1 x2 x3 y0 u → pv_10_call_23 Q2 x1 x2 x3 y0 u → v_10_call_23 Q3 x1 x2 x3 y0 u := (br_cj (cj_v_11_pairCell (fun _ _ => (cj_v_7_made (fun _ _ => (cj_v_10_call_48  hQ))))) (cj_v_10_call_48  hQ))
theorem mn_v_10_call_23 {Q1 Q2 : Int → iST → Prop}  {x1 : Int} {x2 : Int} {x3 : Int} {y0 : Int} {u : iST} (hQ : ∀ r0 r1, Q1 r0 r1 → Q2 r0 r1) : pv_10_call_23 Q1 x1 x2 x3 y0 u → pv_10_call_23 Q2 x1 x2 x3 y0 u := (br_mn (mn_v_11_pairCell (fun _ _ => (mn_v_7_made (fun _ _ => (mn_v_10_call_48  hQ))))) (mn_v_10_call_48  hQ))
theorem wp_v_10_call_23 {Q1 Q2 : Int → iST → Prop}  {x1 : Int} {x2 : Int} {x3 : Int} {y0 : Int} {u : iST} (hQ : ∀ r0 r1, Q1 r0 r1 → Q2 r0 r1) : v_10_call_23 Q1 x1 x2 x3 y0 u → pv_10_call_23 Q2 x1 x2 x3 y0 u := (br_wp (wp_v_11_pairCell (fun _ _ => (wp_v_7_made (fun _ _ => (wp_v_10_call_48  hQ))))) (wp_v_10_call_48  hQ))
def pv_10_call (a0 : Int) (a1 : Int) (a2 : Int) (a3 : Int) (Q : Int → iST → Prop) (u : iST) : Prop :=
  br (a3 ≠ (-1)) (
    pv_11_pairCell a3 0 (fun v1 u => 
    pv_7_made v1 (fun v2 u => 
    pv_10_call_23 Q a0 a1 a2 v2 u) u) u) (
    pv_10_call_23 Q a0 a1 a2 0 u)
theorem cj_v_10_call {Q1 Q2 Q3 : Int → iST → Prop}  {a0 : Int} {a1 : Int} {a2 : Int} {a3 : Int} {u : iST} (hQ : ∀ r0 r1, Q1 r0 r1 → Q2 r0 r1 → Q3 r0 r1) : v_10_call a0 a1 a2 a3 Q1 u → pv_10_call a0 a1 a2 a3 Q2 u → v_10_call a0 a1 a2 a3 Q3 u := (br_cj (cj_v_11_pairCell (fun _ _ => (cj_v_7_made (fun _ _ => (cj_v_10_call_23  hQ))))) (cj_v_10_call_23  hQ))
theorem mn_v_10_call {Q1 Q2 : Int → iST → Prop}  {a0 : Int} {a1 : Int} {a2 : Int} {a3 : Int} {u : iST} (hQ : ∀ r0 r1, Q1 r0 r1 → Q2 r0 r1) : pv_10_call a0 a1 a2 a3 Q1 u → pv_10_call a0 a1 a2 a3 Q2 u := (br_mn (mn_v_11_pairCell (fun _ _ => (mn_v_7_made (fun _ _ => (mn_v_10_call_23  hQ))))) (mn_v_10_call_23  hQ))
theorem wp_v_10_call {Q1 Q2 : Int → iST → Prop}  {a0 : Int} {a1 : Int} {a2 : Int} {a3 : Int} {u : iST} (hQ : ∀ r0 r1, Q1 r0 r1 → Q2 r0 r1) : v_10_call a0 a1 a2 a3 Q1 u → pv_10_call a0 a1 a2 a3 Q2 u := (br_wp (wp_v_11_pairCell (fun _ _ => (wp_v_7_made (fun _ _ => (wp_v_10_call_23  hQ))))) (wp_v_10_call_23  hQ))
def pv_10_negated (a0 : Int) (Q : Int → iST → Prop) (u : iST) : Prop :=
  pv_7_isCallOf a0 16 (fun v1 u => 
  br (v1 = 0) (
    pv_7_isConstant a0 (fun v2 u => 
    br (v2 = 0) (
      pv_10_call 16 a0 (-1) (-1) (fun v3 u => 
      Q v3 u) u) (
      br (a0 ≠ 0) (
        Q 0 u) (
        Q 1 u))) u) (
    pv_7_item a0 1 (fun v4 u => 
    Q v4 u) u)) u
theorem cj_v_10_negated {Q1 Q2 Q3 : Int → iST → Prop}  {a0 : Int} {u : iST} (hQ : ∀ r0 r1, Q1 r0 r1 → Q2 r0 r1 → Q3 r0 r1) : v_10_negated a0 Q1 u → pv_10_negated a0 Q2 u → v_10_negated a0 Q3 u := (cj_v_7_isCallOf (fun _ _ => (br_cj (cj_v_7_isConstant (fun _ _ => (br_cj (cj_v_10_call (fun _ _ => (hQ _ _))) (br_cj (hQ _ _) (hQ _ _))))) (cj_v_7_item (fun _ _ => (hQ _ _))))))
theorem mn_v_10_negated {Q1 Q2 : Int → iST → Prop}  {a0 : Int} {u : iST} (hQ : ∀ r0 r1, Q1 r0 r1 → Q2 r0 r1) : pv_10_negated a0 Q1 u → pv_10_negated a0 Q2 u := (mn_v_7_isCallOf (fun _ _ => (br_mn (mn_v_7_isConstant (fun _ _ => (br_mn (mn_v_10_call (fun _ _ => (hQ _ _))) (br_mn (hQ _ _) (hQ _ _))))) (mn_v_7_item (fun _ _ => (hQ _ _))))))
theorem wp_v_10_negated {Q1 Q2 : Int → iST → Prop}  {a0 : Int} {u : iST} (hQ : ∀ r0 r1, Q1 r0 r1 → Q2 r0 r1) : v_10_negated a0 Q1 u → pv_10_negated a0 Q2 u := (wp_v_7_isCallOf (fun _ _ => (br_wp (wp_v_7_isConstant (fun _ _ => (br_wp (wp_v_10_call (fun _ _ => (hQ _ _))) (br_wp (hQ _ _) (hQ _ _))))) (wp_v_7_item (fun _ _ => (hQ _ _))))))
def pv_3_joinEqual (a0 : Int) (a1 : Int) (a2 : Int) (Q : iST → Prop) (u : iST) : Prop :=
  pv_10_call 4 a1 a2 (-1) (fun v1 u => 
  pv_10_join a0 v1 (fun u => 
  Q u) u) u
theorem cj_v_3_joinEqual {Q1 Q2 Q3 : iST → Prop}  {a0 : Int} {a1 : Int} {a2 : Int} {u : iST} (hQ : ∀ r0, Q1 r0 → Q2 r0 → Q3 r0) : v_3_joinEqual a0 a1 a2 Q1 u → pv_3_joinEqual a0 a1 a2 Q2 u → v_3_joinEqual a0 a1 a2 Q3 u := (cj_v_10_call (fun _ _ => (cj_v_10_join (fun _ => (hQ _)))))
theorem mn_v_3_joinEqual {Q1 Q2 : iST → Prop}  {a0 : Int} {a1 : Int} {a2 : Int} {u : iST} (hQ : ∀ r0, Q1 r0 → Q2 r0) : pv_3_joinEqual a0 a1 a2 Q1 u → pv_3_joinEqual a0 a1 a2 Q2 u := (mn_v_10_call (fun _ _ => (mn_v_10_join (fun _ => (hQ _)))))
theorem wp_v_3_joinEqual {Q1 Q2 : iST → Prop}  {a0 : Int} {a1 : Int} {a2 : Int} {u : iST} (hQ : ∀ r0, Q1 r0 → Q2 r0) : v_3_joinEqual a0 a1 a2 Q1 u → pv_3_joinEqual a0 a1 a2 Q2 u := (wp_v_10_call (fun _ _ => (wp_v_10_join (fun _ => (hQ _)))))
def pv_7_constantOf (a0 : Int) (Q : Int → iST → Prop) (u : iST) : Prop :=
  br (a0 ≤ 1) (
    Q a0 u) (
    pv_7_isNatural a0 (fun v1 u => 
    br (v1 = 0) (
      pv_11_pairCell a0 0 (fun v2 u => 
      pv_7_made v2 (fun v3 u => 
      pv_11_pairCell 2 v3 (fun v4 u => 
      pv_7_made v4 (fun v5 u => 
      Q v5 u) u) u) u) u) (
      Q a0 u)) u)
theorem cj_v_7_constantOf {Q1 Q2 Q3 : Int → iST → Prop}  {a0 : Int} {u : iST} (hQ : ∀ r0 r1, Q1 r0 r1 → Q2 r0 r1 → Q3 r0 r1) : v_7_constantOf a0 Q1 u → pv_7_constantOf a0 Q2 u → v_7_constantOf a0 Q3 u := (br_cj (hQ _ _) (cj_v_7_isNatural (fun _ _ => (br_cj (cj_v_11_pairCell (fun _ _ => (cj_v_7_made (fun _ _ => (cj_v_11_pairCell (fun _ _ => (cj_v_7_made (fun _ _ => (hQ _ _))))))))) (hQ _ _)))))
theorem mn_v_7_constantOf {Q1 Q2 : Int → iST → Prop}  {a0 : Int} {u : iST} (hQ : ∀ r0 r1, Q1 r0 r1 → Q2 r0 r1) : pv_7_constantOf a0 Q1 u → pv_7_constantOf a0 Q2 u := (br_mn (hQ _ _) (mn_v_7_isNatural (fun _ _ => (br_mn (mn_v_11_pairCell (fun _ _ => (mn_v_7_made (fun _ _ => (mn_v_11_pairCell (fun _ _ => (mn_v_7_made (fun _ _ => (hQ _ _))))))))) (hQ _ _)))))
theorem wp_v_7_constantOf {Q1 Q2 : Int → iST → Prop}  {a0 : Int} {u : iST} (hQ : ∀ r0 r1, Q1 r0 r1 → Q2 r0 r1) : v_7_constantOf a0 Q1 u → pv_7_constantOf a0 Q2 u := (br_wp (hQ _ _) (wp_v_7_isNatural (fun _ _ => (br_wp (wp_v_11_pairCell (fun _ _ => (wp_v_7_made (fun _ _ => (wp_v_11_pairCell (fun _ _ => (wp_v_7_made (fun _ _ => (hQ _ _))))))))) (hQ _ _)))))
def pv_3_definedCall (a0 : Int) (Q : Int → iST → Prop) (u : iST) : Prop :=
  br (a0 ≠ (-1)) (
    bdp a0 40 (rd (u.2.1 0 a0) (fun v1 => 
    bdp a0 40 (rd (u.2.1 1 a0) (fun v2 => 
    pv_11_pairCell v1 v2 (fun v3 u => 
    pv_7_made v3 (fun v4 u => 
    Q v4 u) u) u))))) (
    Q (-1) u)
theorem cj_v_3_definedCall {Q1 Q2 Q3 : Int → iST → Prop}  {a0 : Int} {u : iST} (hQ : ∀ r0 r1, Q1 r0 r1 → Q2 r0 r1 → Q3 r0 r1) : v_3_definedCall a0 Q1 u → pv_3_definedCall a0 Q2 u → v_3_definedCall a0 Q3 u := (br_cj (bd_cj (rd_cj fun _ => (bd_cj (rd_cj fun _ => (cj_v_11_pairCell (fun _ _ => (cj_v_7_made (fun _ _ => (hQ _ _))))))))) (hQ _ _))
theorem mn_v_3_definedCall {Q1 Q2 : Int → iST → Prop}  {a0 : Int} {u : iST} (hQ : ∀ r0 r1, Q1 r0 r1 → Q2 r0 r1) : pv_3_definedCall a0 Q1 u → pv_3_definedCall a0 Q2 u := (br_mn (bd_mn (rd_mn fun _ => (bd_mn (rd_mn fun _ => (mn_v_11_pairCell (fun _ _ => (mn_v_7_made (fun _ _ => (hQ _ _))))))))) (hQ _ _))
theorem wp_v_3_definedCall {Q1 Q2 : Int → iST → Prop}  {a0 : Int} {u : iST} (hQ : ∀ r0 r1, Q1 r0 r1 → Q2 r0 r1) : v_3_definedCall a0 Q1 u → pv_3_definedCall a0 Q2 u := (br_wp (bd_wp (rd_wp fun _ => (bd_wp (rd_wp fun _ => (wp_v_11_pairCell (fun _ _ => (wp_v_7_made (fun _ _ => (hQ _ _))))))))) (hQ _ _))
def pv_3_concludePair_102 (Q : iST → Prop) (y1 : Int) (y2 : Int) (u : iST) : Prop :=
  pv_10_join y1 y2 (fun u => 
  Q u) u
theorem cj_v_3_concludePair_102 {Q1 Q2 Q3 : iST → Prop}  {y1 : Int} {y2 : Int} {u : iST} (hQ : ∀ r0, Q1 r0 → Q2 r0 → Q3 r0) : v_3_concludePair_102 Q1 y1 y2 u → pv_3_concludePair_102 Q2 y1 y2 u → v_3_concludePair_102 Q3 y1 y2 u := (cj_v_10_join (fun _ => (hQ _)))
theorem mn_v_3_concludePair_102 {Q1 Q2 : iST → Prop}  {y1 : Int} {y2 : Int} {u : iST} (hQ : ∀ r0, Q1 r0 → Q2 r0) : pv_3_concludePair_102 Q1 y1 y2 u → pv_3_concludePair_102 Q2 y1 y2 u := (mn_v_10_join (fun _ => (hQ _)))
theorem wp_v_3_concludePair_102 {Q1 Q2 : iST → Prop}  {y1 : Int} {y2 : Int} {u : iST} (hQ : ∀ r0, Q1 r0 → Q2 r0) : v_3_concludePair_102 Q1 y1 y2 u → pv_3_concludePair_102 Q2 y1 y2 u := (wp_v_10_join (fun _ => (hQ _)))
def pv_3_concludePair_98 (Q : iST → Prop) (y1 : Int) (y3 : Int) (y4 : Int) (y5 : Int) (u : iST) : Prop :=
  pv_10_call y3 y4 y5 (-1) (fun v3 u => 
  pv_3_concludePair_102 Q y1 v3 u) u
theorem cj_v_3_concludePair_98 {Q1 Q2 Q3 : iST → Prop}  {y1 : Int} {y3 : Int} {y4 : Int} {y5 : Int} {u : iST} (hQ : ∀ r0, Q1 r0 → Q2 r0 → Q3 r0) : v_3_concludePair_98 Q1 y1 y3 y4 y5 u → pv_3_concludePair_98 Q2 y1 y3 y4 y5 u → v_3_concludePair_98 Q3 y1 y3 y4 y5 u := (cj_v_10_call (fun _ _ => (cj_v_3_concludePair_102  hQ)))
theorem mn_v_3_concludePair_98 {Q1 Q2 : iST → Prop}  {y1 : Int} {y3 : Int} {y4 : Int} {y5 : Int} {u : iST} (hQ : ∀ r0, Q1 r0 → Q2 r0) : pv_3_concludePair_98 Q1 y1 y3 y4 y5 u → pv_3_concludePair_98 Q2 y1 y3 y4 y5 u := (mn_v_10_call (fun _ _ => (mn_v_3_concludePair_102  hQ)))
theorem wp_v_3_concludePair_98 {Q1 Q2 : iST → Prop}  {y1 : Int} {y3 : Int} {y4 : Int} {y5 : Int} {u : iST} (hQ : ∀ r0, Q1 r0 → Q2 r0) : v_3_concludePair_98 Q1 y1 y3 y4 y5 u → pv_3_concludePair_98 Q2 y1 y3 y4 y5 u := (wp_v_10_call (fun _ _ => (wp_v_3_concludePair_102  hQ)))
def pv_3_concludePair_62 (Q : iST → Prop) (x1 : Int) (x2 : Int) (x3 : Int) (x4 : Int) (x6 : Int) (y0 : Int) (u : iST) : Prop :=
  br (y0 = 0) (
    br (x2 ≠ 31) (
      pv_3_concludePair_98 Q x1 4 x6 x4 u) (
      pv_3_concludePair_98 Q x1 4 x6 x3 u)) (
    pv_3_concludePair_102 Q x1 x6 u)
theorem cj_v_3_concludePair_62 {Q1 Q2 Q3 : iST → Prop}  {x1 : Int} {x2 : Int} {x3 : Int} {x4 : Int} {x6 : Int} {y0 : Int} {u : iST} (hQ : ∀ r0, Q1 r0 → Q2 r0 → Q3 r0) : v_3_concludePair_62 Q1 x1 x2 x3 x4 x6 y0 u → pv_3_concludePair_62 Q2 x1 x2 x3 x4 x6 y0 u → v_3_concludePair_62 Q3 x1 x2 x3 x4 x6 y0 u := (br_cj (br_cj (cj_v_3_concludePair_98  hQ) (cj_v_3_concludePair_98  hQ)) (cj_v_3_concludePair_102  hQ))
theorem mn_v_3_concludePair_62 {Q1 Q2 : iST → Prop}  {x1 : Int} {x2 : Int} {x3 : Int} {x4 : Int} {x6 : Int} {y0 : Int} {u : iST} (hQ : ∀ r0, Q1 r0 → Q2 r0) : pv_3_concludePair_62 Q1 x1 x2 x3 x4 x6 y0 u → pv_3_concludePair_62 Q2 x1 x2 x3 x4 x6 y0 u := (br_mn (br_mn (mn_v_3_concludePair_98  hQ) (mn_v_3_concludePair_98  hQ)) (mn_v_3_concludePair_102  hQ))
theorem wp_v_3_concludePair_62 {Q1 Q2 : iST → Prop}  {x1 : Int} {x2 : Int} {x3 : Int} {x4 : Int} {x6 : Int} {y0 : Int} {u : iST} (hQ : ∀ r0, Q1 r0 → Q2 r0) : v_3_concludePair_62 Q1 x1 x2 x3 x4 x6 y0 u → pv_3_concludePair_62 Q2 x1 x2 x3 x4 x6 y0 u := (br_wp (br_wp (wp_v_3_concludePair_98  hQ) (wp_v_3_concludePair_98  hQ)) (wp_v_3_concludePair_102  hQ))
def pv_3_concludePair_42 (Q : iST → Prop) (x1 : Int) (x2 : Int) (x3 : Int) (x4 : Int) (x5 : Int) (y1 : Int) (u : iST) : Prop :=
  pv_10_call y1 x5 (-1) (-1) (fun v2 u => 
  br (x2 ≠ 33) (
    pv_3_concludePair_62 Q x1 x2 x3 x4 v2 0 u) (
    pv_3_concludePair_62 Q x1 x2 x3 x4 v2 1 u)) u
theorem cj_v_3_concludePair_42 {Q1 Q2 Q3 : iST → Prop}  {x1 : Int} {x2 : Int} {x3 : Int} {x4 : Int} {x5 : Int} {y1 : Int} {u : iST} (hQ : ∀ r0, Q1 r0 → Q2 r0 → Q3 r0) : v_3_concludePair_42 Q1 x1 x2 x3 x4 x5 y1 u → pv_3_concludePair_42 Q2 x1 x2 x3 x4 x5 y1 u → v_3_concludePair_42 Q3 x1 x2 x3 x4 x5 y1 u := (cj_v_10_call (fun _ _ => (br_cj (cj_v_3_concludePair_62  hQ) (cj_v_3_concludePair_62  hQ))))
theorem mn_v_3_concludePair_42 {Q1 Q2 : iST → Prop}  {x1 : Int} {x2 : Int} {x3 : Int} {x4 : Int} {x5 : Int} {y1 : Int} {u : iST} (hQ : ∀ r0, Q1 r0 → Q2 r0) : pv_3_concludePair_42 Q1 x1 x2 x3 x4 x5 y1 u → pv_3_concludePair_42 Q2 x1 x2 x3 x4 x5 y1 u := (mn_v_10_call (fun _ _ => (br_mn (mn_v_3_concludePair_62  hQ) (mn_v_3_concludePair_62  hQ))))
theorem wp_v_3_concludePair_42 {Q1 Q2 : iST → Prop}  {x1 : Int} {x2 : Int} {x3 : Int} {x4 : Int} {x5 : Int} {y1 : Int} {u : iST} (hQ : ∀ r0, Q1 r0 → Q2 r0) : v_3_concludePair_42 Q1 x1 x2 x3 x4 x5 y1 u → pv_3_concludePair_42 Q2 x1 x2 x3 x4 x5 y1 u := (wp_v_10_call (fun _ _ => (br_wp (wp_v_3_concludePair_62  hQ) (wp_v_3_concludePair_62  hQ))))
def pv_3_concludePair (a0 : Int) (a1 : Int) (a2 : Int) (a3 : Int) (Q : iST → Prop) (u : iST) : Prop :=
  pv_10_call 5 a2 a3 (-1) (fun v1 u => 
  br (a1 ≠ 33) (
    br (a1 ≠ 31) (
      pv_3_concludePair_42 Q a0 a1 a2 a3 v1 12 u) (
      pv_3_concludePair_42 Q a0 a1 a2 a3 v1 11 u)) (
    pv_3_concludePair_42 Q a0 a1 a2 a3 v1 10 u)) u
theorem cj_v_3_concludePair {Q1 Q2 Q3 : iST → Prop}  {a0 : Int} {a1 : Int} {a2 : Int} {a3 : Int} {u : iST} (hQ : ∀ r0, Q1 r0 → Q2 r0 → Q3 r0) : v_3_concludePair a0 a1 a2 a3 Q1 u → pv_3_concludePair a0 a1 a2 a3 Q2 u → v_3_concludePair a0 a1 a2 a3 Q3 u := (cj_v_10_call (fun _ _ => (br_cj (br_cj (cj_v_3_concludePair_42  hQ) (cj_v_3_concludePair_42  hQ)) (cj_v_3_concludePair_42  hQ))))
theorem mn_v_3_concludePair {Q1 Q2 : iST → Prop}  {a0 : Int} {a1 : Int} {a2 : Int} {a3 : Int} {u : iST} (hQ : ∀ r0, Q1 r0 → Q2 r0) : pv_3_concludePair a0 a1 a2 a3 Q1 u → pv_3_concludePair a0 a1 a2 a3 Q2 u := (mn_v_10_call (fun _ _ => (br_mn (br_mn (mn_v_3_concludePair_42  hQ) (mn_v_3_concludePair_42  hQ)) (mn_v_3_concludePair_42  hQ))))
theorem wp_v_3_concludePair {Q1 Q2 : iST → Prop}  {a0 : Int} {a1 : Int} {a2 : Int} {a3 : Int} {u : iST} (hQ : ∀ r0, Q1 r0 → Q2 r0) : v_3_concludePair a0 a1 a2 a3 Q1 u → pv_3_concludePair a0 a1 a2 a3 Q2 u := (wp_v_10_call (fun _ _ => (br_wp (br_wp (wp_v_3_concludePair_42  hQ) (wp_v_3_concludePair_42  hQ)) (wp_v_3_concludePair_42  hQ))))
def pv_3_concludeAlone_326 (Q : iST → Prop) (y1 : Int) (y2 : Int) (y3 : Int) (u : iST) : Prop :=
  pv_3_joinEqual y1 y2 y3 (fun u => 
  Q u) u
theorem cj_v_3_concludeAlone_326 {Q1 Q2 Q3 : iST → Prop}  {y1 : Int} {y2 : Int} {y3 : Int} {u : iST} (hQ : ∀ r0, Q1 r0 → Q2 r0 → Q3 r0) : v_3_concludeAlone_326 Q1 y1 y2 y3 u → pv_3_concludeAlone_326 Q2 y1 y2 y3 u → v_3_concludeAlone_326 Q3 y1 y2 y3 u := (cj_v_3_joinEqual (fun _ => (hQ _)))
theorem mn_v_3_concludeAlone_326 {Q1 Q2 : iST → Prop}  {y1 : Int} {y2 : Int} {y3 : Int} {u : iST} (hQ : ∀ r0, Q1 r0 → Q2 r0) : pv_3_concludeAlone_326 Q1 y1 y2 y3 u → pv_3_concludeAlone_326 Q2 y1 y2 y3 u := (mn_v_3_joinEqual (fun _ => (hQ _)))
theorem wp_v_3_concludeAlone_326 {Q1 Q2 : iST → Prop}  {y1 : Int} {y2 : Int} {y3 : Int} {u : iST} (hQ : ∀ r0, Q1 r0 → Q2 r0) : v_3_concludeAlone_326 Q1 y1 y2 y3 u → pv_3_concludeAlone_326 Q2 y1 y2 y3 u := (wp_v_3_joinEqual (fun _ => (hQ _)))
def pv_3_concludeAlone_294 (Q : iST → Prop) (x1 : Int) (x3 : Int) (x4 : Int) (x5 : Int) (x8 : Int) (y1 : Int) (y2 : Int) (u : iST) : Prop :=
  pv_10_join y1 y2 (fun u => 
  pv_10_call 3 x4 x5 x8 (fun v21 u => 
  br (x3 ≠ 34) (
    pv_3_concludeAlone_326 Q x1 v21 x8 u) (
    pv_3_concludeAlone_326 Q x1 v21 x5 u)) u) u
theorem cj_v_3_concludeAlone_294 {Q1 Q2 Q3 : iST → Prop}  {x1 : Int} {x3 : Int} {x4 : Int} {x5 : Int} {x8 : Int} {y1 : Int} {y2 : Int} {u : iST} (hQ : ∀ r0, Q1 r0 → Q2 r0 → Q3 r0) : v_3_concludeAlone_294 Q1 x1 x3 x4 x5 x8 y1 y2 u → pv_3_concludeAlone_294 Q2 x1 x3 x4 x5 x8 y1 y2 u → v_3_concludeAlone_294 Q3 x1 x3 x4 x5 x8 y1 y2 u := (cj_v_10_join (fun _ => (cj_v_10_call (fun _ _ => (br_cj (cj_v_3_concludeAlone_326  hQ) (cj_v_3_concludeAlone_326  hQ))))))
theorem mn_v_3_concludeAlone_294 {Q1 Q2 : iST → Prop}  {x1 : Int} {x3 : Int} {x4 : Int} {x5 : Int} {x8 : Int} {y1 : Int} {y2 : Int} {u : iST} (hQ : ∀ r0, Q1 r0 → Q2 r0) : pv_3_concludeAlone_294 Q1 x1 x3 x4 x5 x8 y1 y2 u → pv_3_concludeAlone_294 Q2 x1 x3 x4 x5 x8 y1 y2 u := (mn_v_10_join (fun _ => (mn_v_10_call (fun _ _ => (br_mn (mn_v_3_concludeAlone_326  hQ) (mn_v_3_concludeAlone_326  hQ))))))
theorem wp_v_3_concludeAlone_294 {Q1 Q2 : iST → Prop}  {x1 : Int} {x3 : Int} {x4 : Int} {x5 : Int} {x8 : Int} {y1 : Int} {y2 : Int} {u : iST} (hQ : ∀ r0, Q1 r0 → Q2 r0) : v_3_concludeAlone_294 Q1 x1 x3 x4 x5 x8 y1 y2 u → pv_3_concludeAlone_294 Q2 x1 x3 x4 x5 x8 y1 y2 u := (wp_v_10_join (fun _ => (wp_v_10_call (fun _ _ => (br_wp (wp_v_3_concludeAlone_326  hQ) (wp_v_3_concludeAlone_326  hQ))))))
def pv_3_concludeAlone_206 (Q : iST → Prop) (y1 : Int) (y2 : Int) (y3 : Int) (u : iST) : Prop :=
  pv_3_joinEqual y1 y2 y3 (fun u => 
  Q u) u
theorem cj_v_3_concludeAlone_206 {Q1 Q2 Q3 : iST → Prop}  {y1 : Int} {y2 : Int} {y3 : Int} {u : iST} (hQ : ∀ r0, Q1 r0 → Q2 r0 → Q3 r0) : v_3_concludeAlone_206 Q1 y1 y2 y3 u → pv_3_concludeAlone_206 Q2 y1 y2 y3 u → v_3_concludeAlone_206 Q3 y1 y2 y3 u := (cj_v_3_joinEqual (fun _ => (hQ _)))
theorem mn_v_3_concludeAlone_206 {Q1 Q2 : iST → Prop}  {y1 : Int} {y2 : Int} {y3 : Int} {u : iST} (hQ : ∀ r0, Q1 r0 → Q2 r0) : pv_3_concludeAlone_206 Q1 y1 y2 y3 u → pv_3_concludeAlone_206 Q2 y1 y2 y3 u := (mn_v_3_joinEqual (fun _ => (hQ _)))
theorem wp_v_3_concludeAlone_206 {Q1 Q2 : iST → Prop}  {y1 : Int} {y2 : Int} {y3 : Int} {u : iST} (hQ : ∀ r0, Q1 r0 → Q2 r0) : v_3_concludeAlone_206 Q1 y1 y2 y3 u → pv_3_concludeAlone_206 Q2 y1 y2 y3 u := (wp_v_3_joinEqual (fun _ => (hQ _)))
def pv_3_concludeAlone_255 (Q : iST → Prop) (y1 : Int) (y2 : Int) (u : iST) : Prop :=
  pv_10_join y1 y2 (fun u => 
  Q u) u
theorem cj_v_3_concludeAlone_255 {Q1 Q2 Q3 : iST → Prop}  {y1 : Int} {y2 : Int} {u : iST} (hQ : ∀ r0, Q1 r0 → Q2 r0 → Q3 r0) : v_3_concludeAlone_255 Q1 y1 y2 u → pv_3_concludeAlone_255 Q2 y1 y2 u → v_3_concludeAlone_255 Q3 y1 y2 u := (cj_v_10_join (fun _ => (hQ _)))
theorem mn_v_3_concludeAlone_255 {Q1 Q2 : iST → Prop}  {y1 : Int} {y2 : Int} {u : iST} (hQ : ∀ r0, Q1 r0 → Q2 r0) : pv_3_concludeAlone_255 Q1 y1 y2 u → pv_3_concludeAlone_255 Q2 y1 y2 u := (mn_v_10_join (fun _ => (hQ _)))
theorem wp_v_3_concludeAlone_255 {Q1 Q2 : iST → Prop}  {y1 : Int} {y2 : Int} {u : iST} (hQ : ∀ r0, Q1 r0 → Q2 r0) : v_3_concludeAlone_255 Q1 y1 y2 u → pv_3_concludeAlone_255 Q2 y1 y2 u := (wp_v_10_join (fun _ => (hQ _)))
def pv_3_concludeAlone_39 (Q : iST → Prop) (x1 : Int) (x2 : Int) (x3 : Int) (x4 : Int) (y0 : Int) (u : iST) : Prop :=
  br (x3 = 28) (
    pv_10_join x1 x4 (fun u => 
    pv_10_negated x4 (fun v4 u => 
    pv_10_join x1 v4 (fun u => 
    Q u) u) u) u) (
  br (x3 = 29) (
    pv_3_joinEqual x1 x4 x4 (fun u => 
    Q u) u) (
  br (x3 = 30) (
    pv_3_valueAt x2 (fun v9 u => 
    pv_7_constantOf v9 (fun v10 u => 
    pv_3_joinEqual x1 x4 v10 (fun u => 
    Q u) u) u) u) (
  br (x3 = 31) (
    pv_3_concludePair x1 x3 x4 y0 (fun u => 
    Q u) u) (
  br (x3 = 32) (
    pv_3_concludePair x1 x3 x4 y0 (fun u => 
    Q u) u) (
  br (x3 = 33) (
    pv_3_concludePair x1 x3 x4 y0 (fun u => 
    Q u) u) (
  br (x3 = 34) (
    pv_3_termAt x2 3 (fun v19 u => 
    br (x3 ≠ 34) (
      pv_3_concludeAlone_294 Q x1 x3 x4 y0 v19 x1 x4 u) (
      pv_10_negated x4 (fun v23 u => 
      pv_3_concludeAlone_294 Q x1 x3 x4 y0 v19 x1 v23 u) u)) u) (
  br (x3 = 35) (
    pv_3_termAt x2 3 (fun v25 u => 
    br (x3 ≠ 34) (
      pv_3_concludeAlone_294 Q x1 x3 x4 y0 v25 x1 x4 u) (
      pv_10_negated x4 (fun v26 u => 
      pv_3_concludeAlone_294 Q x1 x3 x4 y0 v25 x1 v26 u) u)) u) (
  br (x3 = 36) (
    pv_7_item x2 1 (fun v28 u => 
    pv_0_functionOf v28 (fun v29 u => 
    pv_3_definedCall v29 (fun v30 u => 
    br (v29 ≠ (-1)) (
      bdp v29 40 (rd (u.2.1 3 v29) (fun v31 => 
      pv_3_concludeAlone_206 Q x1 v30 v31 u))) (
      pv_3_concludeAlone_206 Q x1 v30 (-1) u)) u) u) u) (
  br (x3 = 37) (
    pv_7_item x2 1 (fun v34 u => 
    pv_0_theoremOf v34 (fun v35 u => 
    br (v35 ≠ (-1)) (
      bdp v35 60 (rd (u.2.1 6 v35) (fun v36 => 
      pv_3_concludeAlone_255 Q x1 v36 u))) (
      pv_3_concludeAlone_255 Q x1 (-1) u)) u) u) (
  pv_3_concludePair x1 x3 x4 y0 (fun u => 
  Q u) u))))))))))
theorem cj_v_3_concludeAlone_39 {Q1 Q2 Q3 : iST → Prop}  {x1 : Int} {x2 : Int} {x3 : Int} {x4 : Int} {y0 : Int} {u : iST} (hQ : ∀ r0, Q1 r0 → Q2 r0 → Q3 r0) : v_3_concludeAlone_39 Q1 x1 x2 x3 x4 y0 u → pv_3_concludeAlone_39 Q2 x1 x2 x3 x4 y0 u → v_3_concludeAlone_39 Q3 x1 x2 x3 x4 y0 u := (br_cj (cj_v_10_join (fun _ => (cj_v_10_negated (fun _ _ => (cj_v_10_join (fun _ => (hQ _))))))) (br_cj (cj_v_3_joinEqual (fun _ => (hQ _))) (br_cj (cj_v_3_valueAt (fun _ _ => (cj_v_7_constantOf (fun _ _ => (cj_v_3_joinEqual (fun _ => (hQ _))))))) (br_cj (cj_v_3_concludePair (fun _ => (hQ _))) (br_cj (cj_v_3_concludePair (fun _ => (hQ _))) (br_cj (cj_v_3_concludePair (fun _ => (hQ _))) (br_cj (cj_v_3_termAt (fun _ _ => (br_cj (cj_v_3_concludeAlone_294  hQ) (cj_v_10_negated (fun _ _ => (cj_v_3_concludeAlone_294  hQ)))))) (br_cj (cj_v_3_termAt (fun _ _ => (br_cj (cj_v_3_concludeAlone_294  hQ) (cj_v_10_negated (fun _ _ => (cj_v_3_concludeAlone_294  hQ)))))) (br_cj (cj_v_7_item (fun _ _ => (cj_v_0_functionOf (fun _ _ => (cj_v_3_definedCall (fun _ _ => (br_cj (bd_cj (rd_cj fun _ => (cj_v_3_concludeAlone_206  hQ))) (cj_v_3_concludeAlone_206  hQ)))))))) (br_cj (cj_v_7_item (fun _ _ => (cj_v_0_theoremOf (fun _ _ => (br_cj (bd_cj (rd_cj fun _ => (cj_v_3_concludeAlone_255  hQ))) (cj_v_3_concludeAlone_255  hQ)))))) (cj_v_3_concludePair (fun _ => (hQ _)))))))))))))
theorem mn_v_3_concludeAlone_39 {Q1 Q2 : iST → Prop}  {x1 : Int} {x2 : Int} {x3 : Int} {x4 : Int} {y0 : Int} {u : iST} (hQ : ∀ r0, Q1 r0 → Q2 r0) : pv_3_concludeAlone_39 Q1 x1 x2 x3 x4 y0 u → pv_3_concludeAlone_39 Q2 x1 x2 x3 x4 y0 u := (br_mn (mn_v_10_join (fun _ => (mn_v_10_negated (fun _ _ => (mn_v_10_join (fun _ => (hQ _))))))) (br_mn (mn_v_3_joinEqual (fun _ => (hQ _))) (br_mn (mn_v_3_valueAt (fun _ _ => (mn_v_7_constantOf (fun _ _ => (mn_v_3_joinEqual (fun _ => (hQ _))))))) (br_mn (mn_v_3_concludePair (fun _ => (hQ _))) (br_mn (mn_v_3_concludePair (fun _ => (hQ _))) (br_mn (mn_v_3_concludePair (fun _ => (hQ _))) (br_mn (mn_v_3_termAt (fun _ _ => (br_mn (mn_v_3_concludeAlone_294  hQ) (mn_v_10_negated (fun _ _ => (mn_v_3_concludeAlone_294  hQ)))))) (br_mn (mn_v_3_termAt (fun _ _ => (br_mn (mn_v_3_concludeAlone_294  hQ) (mn_v_10_negated (fun _ _ => (mn_v_3_concludeAlone_294  hQ)))))) (br_mn (mn_v_7_item (fun _ _ => (mn_v_0_functionOf (fun _ _ => (mn_v_3_definedCall (fun _ _ => (br_mn (bd_mn (rd_mn fun _ => (mn_v_3_concludeAlone_206  hQ))) (mn_v_3_concludeAlone_206  hQ)))))))) (br_mn (mn_v_7_item (fun _ _ => (mn_v_0_theoremOf (fun _ _ => (br_mn (bd_mn (rd_mn fun _ => (mn_v_3_concludeAlone_255  hQ))) (mn_v_3_concludeAlone_255  hQ)))))) (mn_v_3_concludePair (fun _ => (hQ _)))))))))))))
theorem wp_v_3_concludeAlone_39 {Q1 Q2 : iST → Prop}  {x1 : Int} {x2 : Int} {x3 : Int} {x4 : Int} {y0 : Int} {u : iST} (hQ : ∀ r0, Q1 r0 → Q2 r0) : v_3_concludeAlone_39 Q1 x1 x2 x3 x4 y0 u → pv_3_concludeAlone_39 Q2 x1 x2 x3 x4 y0 u := (br_wp (wp_v_10_join (fun _ => (wp_v_10_negated (fun _ _ => (wp_v_10_join (fun _ => (hQ _))))))) (br_wp (wp_v_3_joinEqual (fun _ => (hQ _))) (br_wp (wp_v_3_valueAt (fun _ _ => (wp_v_7_constantOf (fun _ _ => (wp_v_3_joinEqual (fun _ => (hQ _))))))) (br_wp (wp_v_3_concludePair (fun _ => (hQ _))) (br_wp (wp_v_3_concludePair (fun _ => (hQ _))) (br_wp (wp_v_3_concludePair (fun _ => (hQ _))) (br_wp (wp_v_3_termAt (fun _ _ => (br_wp (wp_v_3_concludeAlone_294  hQ) (wp_v_10_negated (fun _ _ => (wp_v_3_concludeAlone_294  hQ)))))) (br_wp (wp_v_3_termAt (fun _ _ => (br_wp (wp_v_3_concludeAlone_294  hQ) (wp_v_10_negated (fun _ _ => (wp_v_3_concludeAlone_294  hQ)))))) (br_wp (wp_v_7_item (fun _ _ => (wp_v_0_functionOf (fun _ _ => (wp_v_3_definedCall (fun _ _ => (br_wp (bd_wp (rd_wp fun _ => (wp_v_3_concludeAlone_206  hQ))) (wp_v_3_concludeAlone_206  hQ)))))))) (br_wp (wp_v_7_item (fun _ _ => (wp_v_0_theoremOf (fun _ _ => (br_wp (bd_wp (rd_wp fun _ => (wp_v_3_concludeAlone_255  hQ))) (wp_v_3_concludeAlone_255  hQ)))))) (wp_v_3_concludePair (fun _ => (hQ _)))))))))))))
def pv_3_concludeAlone_38 (Q : iST → Prop) (x1 : Int) (x2 : Int) (x3 : Int) (x4 : Int) (u : iST) : Prop :=
  pv_3_concludeAlone_39 Q x1 x2 x3 x4 (-1) u
theorem cj_v_3_concludeAlone_38 {Q1 Q2 Q3 : iST → Prop}  {x1 : Int} {x2 : Int} {x3 : Int} {x4 : Int} {u : iST} (hQ : ∀ r0, Q1 r0 → Q2 r0 → Q3 r0) : v_3_concludeAlone_38 Q1 x1 x2 x3 x4 u → pv_3_concludeAlone_38 Q2 x1 x2 x3 x4 u → v_3_concludeAlone_38 Q3 x1 x2 x3 x4 u := (cj_v_3_concludeAlone_39  hQ)
theorem mn_v_3_concludeAlone_38 {Q1 Q2 : iST → Prop}  {x1 : Int} {x2 : Int} {x3 : Int} {x4 : Int} {u : iST} (hQ : ∀ r0, Q1 r0 → Q2 r0) : pv_3_concludeAlone_38 Q1 x1 x2 x3 x4 u → pv_3_concludeAlone_38 Q2 x1 x2 x3 x4 u := (mn_v_3_concludeAlone_39  hQ)
theorem wp_v_3_concludeAlone_38 {Q1 Q2 : iST → Prop}  {x1 : Int} {x2 : Int} {x3 : Int} {x4 : Int} {u : iST} (hQ : ∀ r0, Q1 r0 → Q2 r0) : v_3_concludeAlone_38 Q1 x1 x2 x3 x4 u → pv_3_concludeAlone_38 Q2 x1 x2 x3 x4 u := (wp_v_3_concludeAlone_39  hQ)
def pv_3_concludeAlone (a0 : Int) (a1 : Int) (Q : iST → Prop) (u : iST) : Prop :=
  pv_7_left a1 (fun v1 u => 
  pv_3_termAt a1 1 (fun v2 u => 
  br (v1 < 31) (
    pv_3_concludeAlone_38 Q a0 a1 v1 v2 u) (
    br (35 < v1) (
      pv_3_concludeAlone_38 Q a0 a1 v1 v2 u) (
      pv_3_termAt a1 2 (fun v40 u => 
      pv_3_concludeAlone_39 Q a0 a1 v1 v2 v40 u) u))) u) u
theorem cj_v_3_concludeAlone {Q1 Q2 Q3 : iST → Prop}  {a0 : Int} {a1 : Int} {u : iST} (hQ : ∀ r0, Q1 r0 → Q2 r0 → Q3 r0) : v_3_concludeAlone a0 a1 Q1 u → pv_3_concludeAlone a0 a1 Q2 u → v_3_concludeAlone a0 a1 Q3 u := (cj_v_7_left (fun _ _ => (cj_v_3_termAt (fun _ _ => (br_cj (cj_v_3_concludeAlone_38  hQ) (br_cj (cj_v_3_concludeAlone_38  hQ) (cj_v_3_termAt (fun _ _ => (cj_v_3_concludeAlone_39  hQ)))))))))
theorem mn_v_3_concludeAlone {Q1 Q2 : iST → Prop}  {a0 : Int} {a1 : Int} {u : iST} (hQ : ∀ r0, Q1 r0 → Q2 r0) : pv_3_concludeAlone a0 a1 Q1 u → pv_3_concludeAlone a0 a1 Q2 u := (mn_v_7_left (fun _ _ => (mn_v_3_termAt (fun _ _ => (br_mn (mn_v_3_concludeAlone_38  hQ) (br_mn (mn_v_3_concludeAlone_38  hQ) (mn_v_3_termAt (fun _ _ => (mn_v_3_concludeAlone_39  hQ)))))))))
theorem wp_v_3_concludeAlone {Q1 Q2 : iST → Prop}  {a0 : Int} {a1 : Int} {u : iST} (hQ : ∀ r0, Q1 r0 → Q2 r0) : v_3_concludeAlone a0 a1 Q1 u → pv_3_concludeAlone a0 a1 Q2 u := (wp_v_7_left (fun _ _ => (wp_v_3_termAt (fun _ _ => (br_wp (wp_v_3_concludeAlone_38  hQ) (br_wp (wp_v_3_concludeAlone_38  hQ) (wp_v_3_termAt (fun _ _ => (wp_v_3_concludeAlone_39  hQ)))))))))
def pv_10_bindRow_10b (R10 : Int → Int → iST → Prop) (Q : iST → Prop) (x3 : Int) (x4 : Int) (u : iST) : Prop :=
  pv_7_isPair x4 (fun v1 u => 
  br (v1 = 0) (
    Q u) (
    pv_7_left x4 (fun v2 u => 
    pv_7_left x3 (fun v3 u => 
    pv_10_bind v2 v3 (fun u => 
    pv_7_right x3 (fun v5 u => 
    pv_7_right x4 (fun v6 u => 
    R10 v5 v6 u) u) u) u) u) u)) u
theorem cj_v_10_bindRow_10b {Q1 Q2 Q3 : iST → Prop} {R101 R102 R103 : Int → Int → iST → Prop} {x3 : Int} {x4 : Int} {u : iST} (hR10 : ∀ r0 r1 r2, R101 r0 r1 r2 → R102 r0 r1 r2 → R103 r0 r1 r2) (hQ : ∀ r0, Q1 r0 → Q2 r0 → Q3 r0) : v_10_bindRow_10b R101 Q1 x3 x4 u → pv_10_bindRow_10b R102 Q2 x3 x4 u → v_10_bindRow_10b R103 Q3 x3 x4 u := (cj_v_7_isPair (fun _ _ => (br_cj (hQ _) (cj_v_7_left (fun _ _ => (cj_v_7_left (fun _ _ => (cj_v_10_bind (fun _ => (cj_v_7_right (fun _ _ => (cj_v_7_right (fun _ _ => (hR10 _ _ _))))))))))))))
theorem mn_v_10_bindRow_10b {Q1 Q2 : iST → Prop} {R101 R102 : Int → Int → iST → Prop} {x3 : Int} {x4 : Int} {u : iST} (hR10 : ∀ r0 r1 r2, R101 r0 r1 r2 → R102 r0 r1 r2) (hQ : ∀ r0, Q1 r0 → Q2 r0) : pv_10_bindRow_10b R101 Q1 x3 x4 u → pv_10_bindRow_10b R102 Q2 x3 x4 u := (mn_v_7_isPair (fun _ _ => (br_mn (hQ _) (mn_v_7_left (fun _ _ => (mn_v_7_left (fun _ _ => (mn_v_10_bind (fun _ => (mn_v_7_right (fun _ _ => (mn_v_7_right (fun _ _ => (hR10 _ _ _))))))))))))))
theorem wp_v_10_bindRow_10b {Q1 Q2 : iST → Prop} {R101 R102 : Int → Int → iST → Prop} {x3 : Int} {x4 : Int} {u : iST} (hR10 : ∀ r0 r1 r2, R101 r0 r1 r2 → R102 r0 r1 r2) (hQ : ∀ r0, Q1 r0 → Q2 r0) : v_10_bindRow_10b R101 Q1 x3 x4 u → pv_10_bindRow_10b R102 Q2 x3 x4 u := (wp_v_7_isPair (fun _ _ => (br_wp (hQ _) (wp_v_7_left (fun _ _ => (wp_v_7_left (fun _ _ => (wp_v_10_bind (fun _ => (wp_v_7_right (fun _ _ => (wp_v_7_right (fun _ _ => (hR10 _ _ _))))))))))))))
def pv_10_bindRow_10 (Q : iST → Prop) (x3 : Int) (x4 : Int) (u : iST) : Prop := ∃ R10 : Int → Int → iST → Prop, (∀ (x3 : Int) (x4 : Int) (u : iST), R10 x3 x4 u → pv_10_bindRow_10b R10 Q x3 x4 u) ∧ R10 x3 x4 u
theorem cj_v_10_bindRow_10 {Q1 Q2 Q3 : iST → Prop}  {x3 : Int} {x4 : Int} {u : iST} (hQ : ∀ r0, Q1 r0 → Q2 r0 → Q3 r0) : v_10_bindRow_10 Q1 x3 x4 u → pv_10_bindRow_10 Q2 x3 x4 u → v_10_bindRow_10 Q3 x3 x4 u := by
  intro a b R3 c3
  obtain ⟨R2, c2, b2⟩ := b
  exact a (fun r0 r1 r2 => R2 r0 r1 r2 → R3 r0 r1 r2) (fun r0 r1 r2 a b => c3 r0 r1 r2 (cj_v_10_bindRow_10b (fun r0 r1 r2 a b => a b) hQ a (c2 r0 r1 r2 b))) b2
theorem pv_10_bindRow_10_i  {Q : iST → Prop} {x3 : Int} {x4 : Int} {u : iST} (I : Int → Int → iST → Prop) (s : ∀ (x3 : Int) (x4 : Int) (u : iST), I x3 x4 u → pv_10_bindRow_10b I Q x3 x4 u) (h : I x3 x4 u) : pv_10_bindRow_10 Q x3 x4 u := ⟨I, s, h⟩
theorem mn_v_10_bindRow_10 {Q1 Q2 : iST → Prop}  {x3 : Int} {x4 : Int} {u : iST} (hQ : ∀ r0, Q1 r0 → Q2 r0) : pv_10_bindRow_10 Q1 x3 x4 u → pv_10_bindRow_10 Q2 x3 x4 u := fun ⟨R, s, h⟩ => ⟨R, fun r0 r1 r2 a => mn_v_10_bindRow_10b (fun r0 r1 r2 a => a) hQ (s r0 r1 r2 a), h⟩
theorem un_v_10_bindRow_10  {Q : iST → Prop} {x3 : Int} {x4 : Int} {u : iST} : pv_10_bindRow_10 Q x3 x4 u → pv_10_bindRow_10b (fun x3 x4 u => pv_10_bindRow_10 Q x3 x4 u) Q x3 x4 u := fun ⟨R, s, h⟩ => mn_v_10_bindRow_10b (fun r0 r1 r2 a => ⟨R, s, a⟩) (fun _ h => h) (s _ _ _ h)
theorem fo_v_10_bindRow_10  {Q : iST → Prop} {x3 : Int} {x4 : Int} {u : iST} : pv_10_bindRow_10b (fun x3 x4 u => pv_10_bindRow_10 Q x3 x4 u) Q x3 x4 u → pv_10_bindRow_10 Q x3 x4 u := fun h => ⟨fun x3 x4 u => pv_10_bindRow_10b (fun x3 x4 u => pv_10_bindRow_10 Q x3 x4 u) Q x3 x4 u, fun r0 r1 r2 a => mn_v_10_bindRow_10b (fun r0 r1 r2 a => un_v_10_bindRow_10 a) (fun _ h => h) a, h⟩
theorem wp_v_10_bindRow_10 {Q1 Q2 : iST → Prop}  {x3 : Int} {x4 : Int} {u : iST} (hQ : ∀ r0, Q1 r0 → Q2 r0) : v_10_bindRow_10 Q1 x3 x4 u → pv_10_bindRow_10 Q2 x3 x4 u := fun a => a (fun x3 x4 u => pv_10_bindRow_10 Q2 x3 x4 u) (fun x3 x4 u b => fo_v_10_bindRow_10 (wp_v_10_bindRow_10b (fun r0 r1 r2 a => a) hQ b))
def pv_10_bindRow (a0 : Int) (a1 : Int) (Q : iST → Prop) (u : iST) : Prop :=
  sw (iI u 39 0) (fun u => 
  pv_10_bindRow_10 Q a1 a0 u)
theorem cj_v_10_bindRow {Q1 Q2 Q3 : iST → Prop}  {a0 : Int} {a1 : Int} {u : iST} (hQ : ∀ r0, Q1 r0 → Q2 r0 → Q3 r0) : v_10_bindRow a0 a1 Q1 u → pv_10_bindRow a0 a1 Q2 u → v_10_bindRow a0 a1 Q3 u := (sw_cj fun _ => (cj_v_10_bindRow_10  hQ))
theorem mn_v_10_bindRow {Q1 Q2 : iST → Prop}  {a0 : Int} {a1 : Int} {u : iST} (hQ : ∀ r0, Q1 r0 → Q2 r0) : pv_10_bindRow a0 a1 Q1 u → pv_10_bindRow a0 a1 Q2 u := (sw_mn fun _ => (mn_v_10_bindRow_10  hQ))
theorem wp_v_10_bindRow {Q1 Q2 : iST → Prop}  {a0 : Int} {a1 : Int} {u : iST} (hQ : ∀ r0, Q1 r0 → Q2 r0) : v_10_bindRow a0 a1 Q1 u → pv_10_bindRow a0 a1 Q2 u := (sw_wp fun _ => (wp_v_10_bindRow_10  hQ))
def pv_8_addRulers_80 (R12 : Int → Int → iST → Prop) (Q : iST → Prop) (x1 : Int) (x4 : Int) (y0 : Int) (u : iST) : Prop :=
  pv_10_negated y0 (fun v8 u => 
  pv_10_join x1 v8 (fun u => 
  ovp (x4 + 1) (
  R12 x1 (x4 + 1) u)) u) u
theorem cj_v_8_addRulers_80 {Q1 Q2 Q3 : iST → Prop} {R121 R122 R123 : Int → Int → iST → Prop} {x1 : Int} {x4 : Int} {y0 : Int} {u : iST} (hR12 : ∀ r0 r1 r2, R121 r0 r1 r2 → R122 r0 r1 r2 → R123 r0 r1 r2) (hQ : ∀ r0, Q1 r0 → Q2 r0 → Q3 r0) : v_8_addRulers_80 R121 Q1 x1 x4 y0 u → pv_8_addRulers_80 R122 Q2 x1 x4 y0 u → v_8_addRulers_80 R123 Q3 x1 x4 y0 u := (cj_v_10_negated (fun _ _ => (cj_v_10_join (fun _ => (ov_cj (hR12 _ _ _))))))
theorem mn_v_8_addRulers_80 {Q1 Q2 : iST → Prop} {R121 R122 : Int → Int → iST → Prop} {x1 : Int} {x4 : Int} {y0 : Int} {u : iST} (hR12 : ∀ r0 r1 r2, R121 r0 r1 r2 → R122 r0 r1 r2) (hQ : ∀ r0, Q1 r0 → Q2 r0) : pv_8_addRulers_80 R121 Q1 x1 x4 y0 u → pv_8_addRulers_80 R122 Q2 x1 x4 y0 u := (mn_v_10_negated (fun _ _ => (mn_v_10_join (fun _ => (ov_mn (hR12 _ _ _))))))
theorem wp_v_8_addRulers_80 {Q1 Q2 : iST → Prop} {R121 R122 : Int → Int → iST → Prop} {x1 : Int} {x4 : Int} {y0 : Int} {u : iST} (hR12 : ∀ r0 r1 r2, R121 r0 r1 r2 → R122 r0 r1 r2) (hQ : ∀ r0, Q1 r0 → Q2 r0) : v_8_addRulers_80 R121 Q1 x1 x4 y0 u → pv_8_addRulers_80 R122 Q2 x1 x4 y0 u := (wp_v_10_negated (fun _ _ => (wp_v_10_join (fun _ => (ov_wp (hR12 _ _ _))))))
def pv_8_addRulers_12b (R12 : Int → Int → iST → Prop) (Q : iST → Prop) (x1 : Int) (x4 : Int) (u : iST) : Prop :=
  rd (u.1 33) (fun v2 => 
  br (v2 ≤ x4) (
    Q u) (
    rd (u.1 32) (fun v3 => 
    br (v3 ≠ 0) (
      Q u) (
      bdp x4 64 (rd (u.2.1 31 x4) (fun v4 => 
      pv_7_item v4 1 (fun v5 u => 
      pv_10_rebuilt v5 1 (fun v6 u => 
      bdp x4 64 (rz (u.2.1 32 x4) (fun v7 => 
      br (v7 = 0) (
        pv_8_addRulers_80 R12 Q x1 x4 v6 u) (
        pv_10_negated v6 (fun v11 u => 
        pv_8_addRulers_80 R12 Q x1 x4 v11 u) u)))) u) u))))))
theorem cj_v_8_addRulers_12b {Q1 Q2 Q3 : iST → Prop} {R121 R122 R123 : Int → Int → iST → Prop} {x1 : Int} {x4 : Int} {u : iST} (hR12 : ∀ r0 r1 r2, R121 r0 r1 r2 → R122 r0 r1 r2 → R123 r0 r1 r2) (hQ : ∀ r0, Q1 r0 → Q2 r0 → Q3 r0) : v_8_addRulers_12b R121 Q1 x1 x4 u → pv_8_addRulers_12b R122 Q2 x1 x4 u → v_8_addRulers_12b R123 Q3 x1 x4 u := (rd_cj fun _ => (br_cj (hQ _) (rd_cj fun _ => (br_cj (hQ _) (bd_cj (rd_cj fun _ => (cj_v_7_item (fun _ _ => (cj_v_10_rebuilt (fun _ _ => (bd_cj (rz_cj fun _ => (br_cj (cj_v_8_addRulers_80 hR12 hQ) (cj_v_10_negated (fun _ _ => (cj_v_8_addRulers_80 hR12 hQ))))))))))))))))
theorem mn_v_8_addRulers_12b {Q1 Q2 : iST → Prop} {R121 R122 : Int → Int → iST → Prop} {x1 : Int} {x4 : Int} {u : iST} (hR12 : ∀ r0 r1 r2, R121 r0 r1 r2 → R122 r0 r1 r2) (hQ : ∀ r0, Q1 r0 → Q2 r0) : pv_8_addRulers_12b R121 Q1 x1 x4 u → pv_8_addRulers_12b R122 Q2 x1 x4 u := (rd_mn fun _ => (br_mn (hQ _) (rd_mn fun _ => (br_mn (hQ _) (bd_mn (rd_mn fun _ => (mn_v_7_item (fun _ _ => (mn_v_10_rebuilt (fun _ _ => (bd_mn (rz_mn fun _ => (br_mn (mn_v_8_addRulers_80 hR12 hQ) (mn_v_10_negated (fun _ _ => (mn_v_8_addRulers_80 hR12 hQ))))))))))))))))
theorem wp_v_8_addRulers_12b {Q1 Q2 : iST → Prop} {R121 R122 : Int → Int → iST → Prop} {x1 : Int} {x4 : Int} {u : iST} (hR12 : ∀ r0 r1 r2, R121 r0 r1 r2 → R122 r0 r1 r2) (hQ : ∀ r0, Q1 r0 → Q2 r0) : v_8_addRulers_12b R121 Q1 x1 x4 u → pv_8_addRulers_12b R122 Q2 x1 x4 u := (rd_wp fun _ => (br_wp (hQ _) (rd_wp fun _ => (br_wp (hQ _) (bd_wp (rd_wp fun _ => (wp_v_7_item (fun _ _ => (wp_v_10_rebuilt (fun _ _ => (bd_wp (rz_wp fun _ => (br_wp (wp_v_8_addRulers_80 hR12 hQ) (wp_v_10_negated (fun _ _ => (wp_v_8_addRulers_80 hR12 hQ))))))))))))))))
def pv_8_addRulers_12 (Q : iST → Prop) (x1 : Int) (x4 : Int) (u : iST) : Prop := ∃ R12 : Int → Int → iST → Prop, (∀ (x1 : Int) (x4 : Int) (u : iST), R12 x1 x4 u → pv_8_addRulers_12b R12 Q x1 x4 u) ∧ R12 x1 x4 u
theorem cj_v_8_addRulers_12 {Q1 Q2 Q3 : iST → Prop}  {x1 : Int} {x4 : Int} {u : iST} (hQ : ∀ r0, Q1 r0 → Q2 r0 → Q3 r0) : v_8_addRulers_12 Q1 x1 x4 u → pv_8_addRulers_12 Q2 x1 x4 u → v_8_addRulers_12 Q3 x1 x4 u := by
  intro a b R3 c3
  obtain ⟨R2, c2, b2⟩ := b
  exact a (fun r0 r1 r2 => R2 r0 r1 r2 → R3 r0 r1 r2) (fun r0 r1 r2 a b => c3 r0 r1 r2 (cj_v_8_addRulers_12b (fun r0 r1 r2 a b => a b) hQ a (c2 r0 r1 r2 b))) b2
theorem pv_8_addRulers_12_i  {Q : iST → Prop} {x1 : Int} {x4 : Int} {u : iST} (I : Int → Int → iST → Prop) (s : ∀ (x1 : Int) (x4 : Int) (u : iST), I x1 x4 u → pv_8_addRulers_12b I Q x1 x4 u) (h : I x1 x4 u) : pv_8_addRulers_12 Q x1 x4 u := ⟨I, s, h⟩
theorem mn_v_8_addRulers_12 {Q1 Q2 : iST → Prop}  {x1 : Int} {x4 : Int} {u : iST} (hQ : ∀ r0, Q1 r0 → Q2 r0) : pv_8_addRulers_12 Q1 x1 x4 u → pv_8_addRulers_12 Q2 x1 x4 u := fun ⟨R, s, h⟩ => ⟨R, fun r0 r1 r2 a => mn_v_8_addRulers_12b (fun r0 r1 r2 a => a) hQ (s r0 r1 r2 a), h⟩
theorem un_v_8_addRulers_12  {Q : iST → Prop} {x1 : Int} {x4 : Int} {u : iST} : pv_8_addRulers_12 Q x1 x4 u → pv_8_addRulers_12b (fun x1 x4 u => pv_8_addRulers_12 Q x1 x4 u) Q x1 x4 u := fun ⟨R, s, h⟩ => mn_v_8_addRulers_12b (fun r0 r1 r2 a => ⟨R, s, a⟩) (fun _ h => h) (s _ _ _ h)
theorem fo_v_8_addRulers_12  {Q : iST → Prop} {x1 : Int} {x4 : Int} {u : iST} : pv_8_addRulers_12b (fun x1 x4 u => pv_8_addRulers_12 Q x1 x4 u) Q x1 x4 u → pv_8_addRulers_12 Q x1 x4 u := fun h => ⟨fun x1 x4 u => pv_8_addRulers_12b (fun x1 x4 u => pv_8_addRulers_12 Q x1 x4 u) Q x1 x4 u, fun r0 r1 r2 a => mn_v_8_addRulers_12b (fun r0 r1 r2 a => un_v_8_addRulers_12 a) (fun _ h => h) a, h⟩
theorem wp_v_8_addRulers_12 {Q1 Q2 : iST → Prop}  {x1 : Int} {x4 : Int} {u : iST} (hQ : ∀ r0, Q1 r0 → Q2 r0) : v_8_addRulers_12 Q1 x1 x4 u → pv_8_addRulers_12 Q2 x1 x4 u := fun a => a (fun x1 x4 u => pv_8_addRulers_12 Q2 x1 x4 u) (fun x1 x4 u b => fo_v_8_addRulers_12 (wp_v_8_addRulers_12b (fun r0 r1 r2 a => a) hQ b))
def pv_8_addRulers (a0 : Int) (a1 : Int) (a2 : Int) (Q : iST → Prop) (u : iST) : Prop :=
  pv_10_bindRow a1 a2 (fun u => 
  pv_8_addRulers_12 Q a0 0 u) u
theorem cj_v_8_addRulers {Q1 Q2 Q3 : iST → Prop}  {a0 : Int} {a1 : Int} {a2 : Int} {u : iST} (hQ : ∀ r0, Q1 r0 → Q2 r0 → Q3 r0) : v_8_addRulers a0 a1 a2 Q1 u → pv_8_addRulers a0 a1 a2 Q2 u → v_8_addRulers a0 a1 a2 Q3 u := (cj_v_10_bindRow (fun _ => (cj_v_8_addRulers_12  hQ)))
theorem mn_v_8_addRulers {Q1 Q2 : iST → Prop}  {a0 : Int} {a1 : Int} {a2 : Int} {u : iST} (hQ : ∀ r0, Q1 r0 → Q2 r0) : pv_8_addRulers a0 a1 a2 Q1 u → pv_8_addRulers a0 a1 a2 Q2 u := (mn_v_10_bindRow (fun _ => (mn_v_8_addRulers_12  hQ)))
theorem wp_v_8_addRulers {Q1 Q2 : iST → Prop}  {a0 : Int} {a1 : Int} {a2 : Int} {u : iST} (hQ : ∀ r0, Q1 r0 → Q2 r0) : v_8_addRulers a0 a1 a2 Q1 u → pv_8_addRulers a0 a1 a2 Q2 u := (wp_v_10_bindRow (fun _ => (wp_v_8_addRulers_12  hQ)))
def pv_10_listParts_82b (R11 : Int → Int → iST → Prop) (R82 : Int → Int → Int → Int → iST → Prop) (Q : Int → iST → Prop) (x2 : Int) (x3 : Int) (x4 : Int) (x6 : Int) (u : iST) : Prop :=
  br (x6 < 1) (
    R11 x2 x3 u) (
    br (128 ≤ x2) (
      R11 x2 x3 u) (
      pv_7_item x4 x6 (fun v5 u => 
      bdp x2 128 (sw (iA u 41 x2 v5) (fun u => 
      ovp (x2 + 1) (
      ovp (x6 + (-1)) (
      R82 (x2 + 1) x3 x4 (x6 + (-1)) u))))) u))
theorem cj_v_10_listParts_82b {Q1 Q2 Q3 : Int → iST → Prop} {R111 R112 R113 : Int → Int → iST → Prop} {R821 R822 R823 : Int → Int → Int → Int → iST → Prop} {x2 : Int} {x3 : Int} {x4 : Int} {x6 : Int} {u : iST} (hR11 : ∀ r0 r1 r2, R111 r0 r1 r2 → R112 r0 r1 r2 → R113 r0 r1 r2) (hR82 : ∀ r0 r1 r2 r3 r4, R821 r0 r1 r2 r3 r4 → R822 r0 r1 r2 r3 r4 → R823 r0 r1 r2 r3 r4) (hQ : ∀ r0 r1, Q1 r0 r1 → Q2 r0 r1 → Q3 r0 r1) : v_10_listParts_82b R111 R821 Q1 x2 x3 x4 x6 u → pv_10_listParts_82b R112 R822 Q2 x2 x3 x4 x6 u → v_10_listParts_82b R113 R823 Q3 x2 x3 x4 x6 u := (br_cj (hR11 _ _ _) (br_cj (hR11 _ _ _) (cj_v_7_item (fun _ _ => (bd_cj (sw_cj fun _ => (ov_cj (ov_cj (hR82 _ _ _ _ _)))))))))
theorem mn_v_10_listParts_82b {Q1 Q2 : Int → iST → Prop} {R111 R112 : Int → Int → iST → Prop} {R821 R822 : Int → Int → Int → Int → iST → Prop} {x2 : Int} {x3 : Int} {x4 : Int} {x6 : Int} {u : iST} (hR11 : ∀ r0 r1 r2, R111 r0 r1 r2 → R112 r0 r1 r2) (hR82 : ∀ r0 r1 r2 r3 r4, R821 r0 r1 r2 r3 r4 → R822 r0 r1 r2 r3 r4) (hQ : ∀ r0 r1, Q1 r0 r1 → Q2 r0 r1) : pv_10_listParts_82b R111 R821 Q1 x2 x3 x4 x6 u → pv_10_listParts_82b R112 R822 Q2 x2 x3 x4 x6 u := (br_mn (hR11 _ _ _) (br_mn (hR11 _ _ _) (mn_v_7_item (fun _ _ => (bd_mn (sw_mn fun _ => (ov_mn (ov_mn (hR82 _ _ _ _ _)))))))))
theorem wp_v_10_listParts_82b {Q1 Q2 : Int → iST → Prop} {R111 R112 : Int → Int → iST → Prop} {R821 R822 : Int → Int → Int → Int → iST → Prop} {x2 : Int} {x3 : Int} {x4 : Int} {x6 : Int} {u : iST} (hR11 : ∀ r0 r1 r2, R111 r0 r1 r2 → R112 r0 r1 r2) (hR82 : ∀ r0 r1 r2 r3 r4, R821 r0 r1 r2 r3 r4 → R822 r0 r1 r2 r3 r4) (hQ : ∀ r0 r1, Q1 r0 r1 → Q2 r0 r1) : v_10_listParts_82b R111 R821 Q1 x2 x3 x4 x6 u → pv_10_listParts_82b R112 R822 Q2 x2 x3 x4 x6 u := (br_wp (hR11 _ _ _) (br_wp (hR11 _ _ _) (wp_v_7_item (fun _ _ => (bd_wp (sw_wp fun _ => (ov_wp (ov_wp (hR82 _ _ _ _ _)))))))))
def pv_10_listParts_82 (R11 : Int → Int → iST → Prop) (Q : Int → iST → Prop) (x2 : Int) (x3 : Int) (x4 : Int) (x6 : Int) (u : iST) : Prop := ∃ R82 : Int → Int → Int → Int → iST → Prop, (∀ (x2 : Int) (x3 : Int) (x4 : Int) (x6 : Int) (u : iST), R82 x2 x3 x4 x6 u → pv_10_listParts_82b R11 R82 Q x2 x3 x4 x6 u) ∧ R82 x2 x3 x4 x6 u
theorem cj_v_10_listParts_82 {Q1 Q2 Q3 : Int → iST → Prop} {R111 R112 R113 : Int → Int → iST → Prop} {x2 : Int} {x3 : Int} {x4 : Int} {x6 : Int} {u : iST} (hR11 : ∀ r0 r1 r2, R111 r0 r1 r2 → R112 r0 r1 r2 → R113 r0 r1 r2) (hQ : ∀ r0 r1, Q1 r0 r1 → Q2 r0 r1 → Q3 r0 r1) : v_10_listParts_82 R111 Q1 x2 x3 x4 x6 u → pv_10_listParts_82 R112 Q2 x2 x3 x4 x6 u → v_10_listParts_82 R113 Q3 x2 x3 x4 x6 u := by
  intro a b R3 c3
  obtain ⟨R2, c2, b2⟩ := b
  exact a (fun r0 r1 r2 r3 r4 => R2 r0 r1 r2 r3 r4 → R3 r0 r1 r2 r3 r4) (fun r0 r1 r2 r3 r4 a b => c3 r0 r1 r2 r3 r4 (cj_v_10_listParts_82b hR11 (fun r0 r1 r2 r3 r4 a b => a b) hQ a (c2 r0 r1 r2 r3 r4 b))) b2
theorem pv_10_listParts_82_i {R11 : Int → Int → iST → Prop} {Q : Int → iST → Prop} {x2 : Int} {x3 : Int} {x4 : Int} {x6 : Int} {u : iST} (I : Int → Int → Int → Int → iST → Prop) (s : ∀ (x2 : Int) (x3 : Int) (x4 : Int) (x6 : Int) (u : iST), I x2 x3 x4 x6 u → pv_10_listParts_82b R11 I Q x2 x3 x4 x6 u) (h : I x2 x3 x4 x6 u) : pv_10_listParts_82 R11 Q x2 x3 x4 x6 u := ⟨I, s, h⟩
theorem mn_v_10_listParts_82 {Q1 Q2 : Int → iST → Prop} {R111 R112 : Int → Int → iST → Prop} {x2 : Int} {x3 : Int} {x4 : Int} {x6 : Int} {u : iST} (hR11 : ∀ r0 r1 r2, R111 r0 r1 r2 → R112 r0 r1 r2) (hQ : ∀ r0 r1, Q1 r0 r1 → Q2 r0 r1) : pv_10_listParts_82 R111 Q1 x2 x3 x4 x6 u → pv_10_listParts_82 R112 Q2 x2 x3 x4 x6 u := fun ⟨R, s, h⟩ => ⟨R, fun r0 r1 r2 r3 r4 a => mn_v_10_listParts_82b hR11 (fun r0 r1 r2 r3 r4 a => a) hQ (s r0 r1 r2 r3 r4 a), h⟩
theorem un_v_10_listParts_82 {R11 : Int → Int → iST → Prop} {Q : Int → iST → Prop} {x2 : Int} {x3 : Int} {x4 : Int} {x6 : Int} {u : iST} : pv_10_listParts_82 R11 Q x2 x3 x4 x6 u → pv_10_listParts_82b R11 (fun x2 x3 x4 x6 u => pv_10_listParts_82 R11 Q x2 x3 x4 x6 u) Q x2 x3 x4 x6 u := fun ⟨R, s, h⟩ => mn_v_10_listParts_82b (fun _ _ _ h => h) (fun r0 r1 r2 r3 r4 a => ⟨R, s, a⟩) (fun _ _ h => h) (s _ _ _ _ _ h)
theorem fo_v_10_listParts_82 {R11 : Int → Int → iST → Prop} {Q : Int → iST → Prop} {x2 : Int} {x3 : Int} {x4 : Int} {x6 : Int} {u : iST} : pv_10_listParts_82b R11 (fun x2 x3 x4 x6 u => pv_10_listParts_82 R11 Q x2 x3 x4 x6 u) Q x2 x3 x4 x6 u → pv_10_listParts_82 R11 Q x2 x3 x4 x6 u := fun h => ⟨fun x2 x3 x4 x6 u => pv_10_listParts_82b R11 (fun x2 x3 x4 x6 u => pv_10_listParts_82 R11 Q x2 x3 x4 x6 u) Q x2 x3 x4 x6 u, fun r0 r1 r2 r3 r4 a => mn_v_10_listParts_82b (fun _ _ _ h => h) (fun r0 r1 r2 r3 r4 a => un_v_10_listParts_82 a) (fun _ _ h => h) a, h⟩
theorem wp_v_10_listParts_82 {Q1 Q2 : Int → iST → Prop} {R111 R112 : Int → Int → iST → Prop} {x2 : Int} {x3 : Int} {x4 : Int} {x6 : Int} {u : iST} (hR11 : ∀ r0 r1 r2, R111 r0 r1 r2 → R112 r0 r1 r2) (hQ : ∀ r0 r1, Q1 r0 r1 → Q2 r0 r1) : v_10_listParts_82 R111 Q1 x2 x3 x4 x6 u → pv_10_listParts_82 R112 Q2 x2 x3 x4 x6 u := fun a => a (fun x2 x3 x4 x6 u => pv_10_listParts_82 R112 Q2 x2 x3 x4 x6 u) (fun x2 x3 x4 x6 u b => fo_v_10_listParts_82 (wp_v_10_listParts_82b hR11 (fun r0 r1 r2 r3 r4 a => a) hQ b))
def pv_10_listParts_76 (R11 : Int → Int → iST → Prop) (Q : Int → iST → Prop) (x2 : Int) (x3 : Int) (x4 : Int) (y0 : Int) (u : iST) : Prop :=
  pv_10_listParts_82 R11 Q x2 x3 x4 y0 u
theorem cj_v_10_listParts_76 {Q1 Q2 Q3 : Int → iST → Prop} {R111 R112 R113 : Int → Int → iST → Prop} {x2 : Int} {x3 : Int} {x4 : Int} {y0 : Int} {u : iST} (hR11 : ∀ r0 r1 r2, R111 r0 r1 r2 → R112 r0 r1 r2 → R113 r0 r1 r2) (hQ : ∀ r0 r1, Q1 r0 r1 → Q2 r0 r1 → Q3 r0 r1) : v_10_listParts_76 R111 Q1 x2 x3 x4 y0 u → pv_10_listParts_76 R112 Q2 x2 x3 x4 y0 u → v_10_listParts_76 R113 Q3 x2 x3 x4 y0 u := (cj_v_10_listParts_82 hR11 hQ)
theorem mn_v_10_listParts_76 {Q1 Q2 : Int → iST → Prop} {R111 R112 : Int → Int → iST → Prop} {x2 : Int} {x3 : Int} {x4 : Int} {y0 : Int} {u : iST} (hR11 : ∀ r0 r1 r2, R111 r0 r1 r2 → R112 r0 r1 r2) (hQ : ∀ r0 r1, Q1 r0 r1 → Q2 r0 r1) : pv_10_listParts_76 R111 Q1 x2 x3 x4 y0 u → pv_10_listParts_76 R112 Q2 x2 x3 x4 y0 u := (mn_v_10_listParts_82 hR11 hQ)
theorem wp_v_10_listParts_76 {Q1 Q2 : Int → iST → Prop} {R111 R112 : Int → Int → iST → Prop} {x2 : Int} {x3 : Int} {x4 : Int} {y0 : Int} {u : iST} (hR11 : ∀ r0 r1 r2, R111 r0 r1 r2 → R112 r0 r1 r2) (hQ : ∀ r0 r1, Q1 r0 r1 → Q2 r0 r1) : v_10_listParts_76 R111 Q1 x2 x3 x4 y0 u → pv_10_listParts_76 R112 Q2 x2 x3 x4 y0 u := (wp_v_10_listParts_82 hR11 hQ)
def pv_10_listParts_11b (R11 : Int → Int → iST → Prop) (Q : Int → iST → Prop) (x2 : Int) (x3 : Int) (u : iST) : Prop :=
  br (x2 ≤ 0) (
    Q x3 u) (
    br (128 ≤ x3) (
      Q x3 u) (
      ovp (x2 + (-1)) (
      bdp (x2 + (-1)) 128 (rd (u.2.1 41 (x2 + (-1))) (fun v2 => 
      bdp x3 128 (sw (iA u 43 x3 v2) (fun u => 
      ovp (x3 + 1) (
      pv_7_isCall v2 (fun v4 u => 
      br (v4 = 0) (
        pv_10_listParts_76 R11 Q (x2 + (-1)) (x3 + 1) v2 0 u) (
        pv_7_right v2 (fun v8 u => 
        pv_7_lengthOf v8 (fun v9 u => 
        pv_10_listParts_76 R11 Q (x2 + (-1)) (x3 + 1) v2 v9 u) u) u)) u))))))))
theorem cj_v_10_listParts_11b {Q1 Q2 Q3 : Int → iST → Prop} {R111 R112 R113 : Int → Int → iST → Prop} {x2 : Int} {x3 : Int} {u : iST} (hR11 : ∀ r0 r1 r2, R111 r0 r1 r2 → R112 r0 r1 r2 → R113 r0 r1 r2) (hQ : ∀ r0 r1, Q1 r0 r1 → Q2 r0 r1 → Q3 r0 r1) : v_10_listParts_11b R111 Q1 x2 x3 u → pv_10_listParts_11b R112 Q2 x2 x3 u → v_10_listParts_11b R113 Q3 x2 x3 u := (br_cj (hQ _ _) (br_cj (hQ _ _) (ov_cj (bd_cj (rd_cj fun _ => (bd_cj (sw_cj fun _ => (ov_cj (cj_v_7_isCall (fun _ _ => (br_cj (cj_v_10_listParts_76 hR11 hQ) (cj_v_7_right (fun _ _ => (cj_v_7_lengthOf (fun _ _ => (cj_v_10_listParts_76 hR11 hQ))))))))))))))))
theorem mn_v_10_listParts_11b {Q1 Q2 : Int → iST → Prop} {R111 R112 : Int → Int → iST → Prop} {x2 : Int} {x3 : Int} {u : iST} (hR11 : ∀ r0 r1 r2, R111 r0 r1 r2 → R112 r0 r1 r2) (hQ : ∀ r0 r1, Q1 r0 r1 → Q2 r0 r1) : pv_10_listParts_11b R111 Q1 x2 x3 u → pv_10_listParts_11b R112 Q2 x2 x3 u := (br_mn (hQ _ _) (br_mn (hQ _ _) (ov_mn (bd_mn (rd_mn fun _ => (bd_mn (sw_mn fun _ => (ov_mn (mn_v_7_isCall (fun _ _ => (br_mn (mn_v_10_listParts_76 hR11 hQ) (mn_v_7_right (fun _ _ => (mn_v_7_lengthOf (fun _ _ => (mn_v_10_listParts_76 hR11 hQ))))))))))))))))
theorem wp_v_10_listParts_11b {Q1 Q2 : Int → iST → Prop} {R111 R112 : Int → Int → iST → Prop} {x2 : Int} {x3 : Int} {u : iST} (hR11 : ∀ r0 r1 r2, R111 r0 r1 r2 → R112 r0 r1 r2) (hQ : ∀ r0 r1, Q1 r0 r1 → Q2 r0 r1) : v_10_listParts_11b R111 Q1 x2 x3 u → pv_10_listParts_11b R112 Q2 x2 x3 u := (br_wp (hQ _ _) (br_wp (hQ _ _) (ov_wp (bd_wp (rd_wp fun _ => (bd_wp (sw_wp fun _ => (ov_wp (wp_v_7_isCall (fun _ _ => (br_wp (wp_v_10_listParts_76 hR11 hQ) (wp_v_7_right (fun _ _ => (wp_v_7_lengthOf (fun _ _ => (wp_v_10_listParts_76 hR11 hQ))))))))))))))))
def pv_10_listParts_11 (Q : Int → iST → Prop) (x2 : Int) (x3 : Int) (u : iST) : Prop := ∃ R11 : Int → Int → iST → Prop, (∀ (x2 : Int) (x3 : Int) (u : iST), R11 x2 x3 u → pv_10_listParts_11b R11 Q x2 x3 u) ∧ R11 x2 x3 u
theorem cj_v_10_listParts_11 {Q1 Q2 Q3 : Int → iST → Prop}  {x2 : Int} {x3 : Int} {u : iST} (hQ : ∀ r0 r1, Q1 r0 r1 → Q2 r0 r1 → Q3 r0 r1) : v_10_listParts_11 Q1 x2 x3 u → pv_10_listParts_11 Q2 x2 x3 u → v_10_listParts_11 Q3 x2 x3 u := by
  intro a b R3 c3
  obtain ⟨R2, c2, b2⟩ := b
  exact a (fun r0 r1 r2 => R2 r0 r1 r2 → R3 r0 r1 r2) (fun r0 r1 r2 a b => c3 r0 r1 r2 (cj_v_10_listParts_11b (fun r0 r1 r2 a b => a b) hQ a (c2 r0 r1 r2 b))) b2
theorem pv_10_listParts_11_i  {Q : Int → iST → Prop} {x2 : Int} {x3 : Int} {u : iST} (I : Int → Int → iST → Prop) (s : ∀ (x2 : Int) (x3 : Int) (u : iST), I x2 x3 u → pv_10_listParts_11b I Q x2 x3 u) (h : I x2 x3 u) : pv_10_listParts_11 Q x2 x3 u := ⟨I, s, h⟩
theorem mn_v_10_listParts_11 {Q1 Q2 : Int → iST → Prop}  {x2 : Int} {x3 : Int} {u : iST} (hQ : ∀ r0 r1, Q1 r0 r1 → Q2 r0 r1) : pv_10_listParts_11 Q1 x2 x3 u → pv_10_listParts_11 Q2 x2 x3 u := fun ⟨R, s, h⟩ => ⟨R, fun r0 r1 r2 a => mn_v_10_listParts_11b (fun r0 r1 r2 a => a) hQ (s r0 r1 r2 a), h⟩
theorem un_v_10_listParts_11  {Q : Int → iST → Prop} {x2 : Int} {x3 : Int} {u : iST} : pv_10_listParts_11 Q x2 x3 u → pv_10_listParts_11b (fun x2 x3 u => pv_10_listParts_11 Q x2 x3 u) Q x2 x3 u := fun ⟨R, s, h⟩ => mn_v_10_listParts_11b (fun r0 r1 r2 a => ⟨R, s, a⟩) (fun _ _ h => h) (s _ _ _ h)
theorem fo_v_10_listParts_11  {Q : Int → iST → Prop} {x2 : Int} {x3 : Int} {u : iST} : pv_10_listParts_11b (fun x2 x3 u => pv_10_listParts_11 Q x2 x3 u) Q x2 x3 u → pv_10_listParts_11 Q x2 x3 u := fun h => ⟨fun x2 x3 u => pv_10_listParts_11b (fun x2 x3 u => pv_10_listParts_11 Q x2 x3 u) Q x2 x3 u, fun r0 r1 r2 a => mn_v_10_listParts_11b (fun r0 r1 r2 a => un_v_10_listParts_11 a) (fun _ _ h => h) a, h⟩
theorem wp_v_10_listParts_11 {Q1 Q2 : Int → iST → Prop}  {x2 : Int} {x3 : Int} {u : iST} (hQ : ∀ r0 r1, Q1 r0 r1 → Q2 r0 r1) : v_10_listParts_11 Q1 x2 x3 u → pv_10_listParts_11 Q2 x2 x3 u := fun a => a (fun x2 x3 u => pv_10_listParts_11 Q2 x2 x3 u) (fun x2 x3 u b => fo_v_10_listParts_11 (wp_v_10_listParts_11b (fun r0 r1 r2 a => a) hQ b))
def pv_10_listParts (a0 : Int) (Q : Int → iST → Prop) (u : iST) : Prop :=
  bdp 0 128 (sw (iA u 41 0 a0) (fun u => 
  pv_10_listParts_11 Q 1 0 u))
theorem cj_v_10_listParts {Q1 Q2 Q3 : Int → iST → Prop}  {a0 : Int} {u : iST} (hQ : ∀ r0 r1, Q1 r0 r1 → Q2 r0 r1 → Q3 r0 r1) : v_10_listParts a0 Q1 u → pv_10_listParts a0 Q2 u → v_10_listParts a0 Q3 u := (bd_cj (sw_cj fun _ => (cj_v_10_listParts_11  hQ)))
theorem mn_v_10_listParts {Q1 Q2 : Int → iST → Prop}  {a0 : Int} {u : iST} (hQ : ∀ r0 r1, Q1 r0 r1 → Q2 r0 r1) : pv_10_listParts a0 Q1 u → pv_10_listParts a0 Q2 u := (bd_mn (sw_mn fun _ => (mn_v_10_listParts_11  hQ)))
theorem wp_v_10_listParts {Q1 Q2 : Int → iST → Prop}  {a0 : Int} {u : iST} (hQ : ∀ r0 r1, Q1 r0 r1 → Q2 r0 r1) : v_10_listParts a0 Q1 u → pv_10_listParts a0 Q2 u := (bd_wp (sw_wp fun _ => (wp_v_10_listParts_11  hQ)))
def pv_8_listCalls_19b (R19 : Int → Int → Int → iST → Prop) (Q : iST → Prop) (x1 : Int) (x2 : Int) (x3 : Int) (u : iST) : Prop :=
  br (x2 ≤ x3) (
    Q u) (
    bdp x3 128 (rd (u.2.1 43 x3) (fun v3 => 
    pv_7_isCallOf v3 x1 (fun v4 u => 
    br (v4 = 0) (
      ovp (x3 + 1) (
      R19 x1 x2 (x3 + 1) u)) (
      rd (u.1 35) (fun v6 => 
      br (128 ≤ v6) (
        ovp (x3 + 1) (
        R19 x1 x2 (x3 + 1) u)) (
        rd (u.1 35) (fun v8 => 
        bdp x3 128 (rd (u.2.1 43 x3) (fun v9 => 
        bdp v8 128 (sw (iA u 33 v8 v9) (fun u => 
        rd (u.1 35) (fun v10 => 
        ovp (v10 + 1) (
        sw (iI u 35 (v10 + 1)) (fun u => 
        ovp (x3 + 1) (
        R19 x1 x2 (x3 + 1) u))))))))))))) u)))
theorem cj_v_8_listCalls_19b {Q1 Q2 Q3 : iST → Prop} {R191 R192 R193 : Int → Int → Int → iST → Prop} {x1 : Int} {x2 : Int} {x3 : Int} {u : iST} (hR19 : ∀ r0 r1 r2 r3, R191 r0 r1 r2 r3 → R192 r0 r1 r2 r3 → R193 r0 r1 r2 r3) (hQ : ∀ r0, Q1 r0 → Q2 r0 → Q3 r0) : v_8_listCalls_19b R191 Q1 x1 x2 x3 u → pv_8_listCalls_19b R192 Q2 x1 x2 x3 u → v_8_listCalls_19b R193 Q3 x1 x2 x3 u := (br_cj (hQ _) (bd_cj (rd_cj fun _ => (cj_v_7_isCallOf (fun _ _ => (br_cj (ov_cj (hR19 _ _ _ _)) (rd_cj fun _ => (br_cj (ov_cj (hR19 _ _ _ _)) (rd_cj fun _ => (bd_cj (rd_cj fun _ => (bd_cj (sw_cj fun _ => (rd_cj fun _ => (ov_cj (sw_cj fun _ => (ov_cj (hR19 _ _ _ _))))))))))))))))))
theorem mn_v_8_listCalls_19b {Q1 Q2 : iST → Prop} {R191 R192 : Int → Int → Int → iST → Prop} {x1 : Int} {x2 : Int} {x3 : Int} {u : iST} (hR19 : ∀ r0 r1 r2 r3, R191 r0 r1 r2 r3 → R192 r0 r1 r2 r3) (hQ : ∀ r0, Q1 r0 → Q2 r0) : pv_8_listCalls_19b R191 Q1 x1 x2 x3 u → pv_8_listCalls_19b R192 Q2 x1 x2 x3 u := (br_mn (hQ _) (bd_mn (rd_mn fun _ => (mn_v_7_isCallOf (fun _ _ => (br_mn (ov_mn (hR19 _ _ _ _)) (rd_mn fun _ => (br_mn (ov_mn (hR19 _ _ _ _)) (rd_mn fun _ => (bd_mn (rd_mn fun _ => (bd_mn (sw_mn fun _ => (rd_mn fun _ => (ov_mn (sw_mn fun _ => (ov_mn (hR19 _ _ _ _))))))))))))))))))
theorem wp_v_8_listCalls_19b {Q1 Q2 : iST → Prop} {R191 R192 : Int → Int → Int → iST → Prop} {x1 : Int} {x2 : Int} {x3 : Int} {u : iST} (hR19 : ∀ r0 r1 r2 r3, R191 r0 r1 r2 r3 → R192 r0 r1 r2 r3) (hQ : ∀ r0, Q1 r0 → Q2 r0) : v_8_listCalls_19b R191 Q1 x1 x2 x3 u → pv_8_listCalls_19b R192 Q2 x1 x2 x3 u := (br_wp (hQ _) (bd_wp (rd_wp fun _ => (wp_v_7_isCallOf (fun _ _ => (br_wp (ov_wp (hR19 _ _ _ _)) (rd_wp fun _ => (br_wp (ov_wp (hR19 _ _ _ _)) (rd_wp fun _ => (bd_wp (rd_wp fun _ => (bd_wp (sw_wp fun _ => (rd_wp fun _ => (ov_wp (sw_wp fun _ => (ov_wp (hR19 _ _ _ _))))))))))))))))))
def pv_8_listCalls_19 (Q : iST → Prop) (x1 : Int) (x2 : Int) (x3 : Int) (u : iST) : Prop := ∃ R19 : Int → Int → Int → iST → Prop, (∀ (x1 : Int) (x2 : Int) (x3 : Int) (u : iST), R19 x1 x2 x3 u → pv_8_listCalls_19b R19 Q x1 x2 x3 u) ∧ R19 x1 x2 x3 u
theorem cj_v_8_listCalls_19 {Q1 Q2 Q3 : iST → Prop}  {x1 : Int} {x2 : Int} {x3 : Int} {u : iST} (hQ : ∀ r0, Q1 r0 → Q2 r0 → Q3 r0) : v_8_listCalls_19 Q1 x1 x2 x3 u → pv_8_listCalls_19 Q2 x1 x2 x3 u → v_8_listCalls_19 Q3 x1 x2 x3 u := by
  intro a b R3 c3
  obtain ⟨R2, c2, b2⟩ := b
  exact a (fun r0 r1 r2 r3 => R2 r0 r1 r2 r3 → R3 r0 r1 r2 r3) (fun r0 r1 r2 r3 a b => c3 r0 r1 r2 r3 (cj_v_8_listCalls_19b (fun r0 r1 r2 r3 a b => a b) hQ a (c2 r0 r1 r2 r3 b))) b2
theorem pv_8_listCalls_19_i  {Q : iST → Prop} {x1 : Int} {x2 : Int} {x3 : Int} {u : iST} (I : Int → Int → Int → iST → Prop) (s : ∀ (x1 : Int) (x2 : Int) (x3 : Int) (u : iST), I x1 x2 x3 u → pv_8_listCalls_19b I Q x1 x2 x3 u) (h : I x1 x2 x3 u) : pv_8_listCalls_19 Q x1 x2 x3 u := ⟨I, s, h⟩
theorem mn_v_8_listCalls_19 {Q1 Q2 : iST → Prop}  {x1 : Int} {x2 : Int} {x3 : Int} {u : iST} (hQ : ∀ r0, Q1 r0 → Q2 r0) : pv_8_listCalls_19 Q1 x1 x2 x3 u → pv_8_listCalls_19 Q2 x1 x2 x3 u := fun ⟨R, s, h⟩ => ⟨R, fun r0 r1 r2 r3 a => mn_v_8_listCalls_19b (fun r0 r1 r2 r3 a => a) hQ (s r0 r1 r2 r3 a), h⟩
theorem un_v_8_listCalls_19  {Q : iST → Prop} {x1 : Int} {x2 : Int} {x3 : Int} {u : iST} : pv_8_listCalls_19 Q x1 x2 x3 u → pv_8_listCalls_19b (fun x1 x2 x3 u => pv_8_listCalls_19 Q x1 x2 x3 u) Q x1 x2 x3 u := fun ⟨R, s, h⟩ => mn_v_8_listCalls_19b (fun r0 r1 r2 r3 a => ⟨R, s, a⟩) (fun _ h => h) (s _ _ _ _ h)
theorem fo_v_8_listCalls_19  {Q : iST → Prop} {x1 : Int} {x2 : Int} {x3 : Int} {u : iST} : pv_8_listCalls_19b (fun x1 x2 x3 u => pv_8_listCalls_19 Q x1 x2 x3 u) Q x1 x2 x3 u → pv_8_listCalls_19 Q x1 x2 x3 u := fun h => ⟨fun x1 x2 x3 u => pv_8_listCalls_19b (fun x1 x2 x3 u => pv_8_listCalls_19 Q x1 x2 x3 u) Q x1 x2 x3 u, fun r0 r1 r2 r3 a => mn_v_8_listCalls_19b (fun r0 r1 r2 r3 a => un_v_8_listCalls_19 a) (fun _ h => h) a, h⟩
theorem wp_v_8_listCalls_19 {Q1 Q2 : iST → Prop}  {x1 : Int} {x2 : Int} {x3 : Int} {u : iST} (hQ : ∀ r0, Q1 r0 → Q2 r0) : v_8_listCalls_19 Q1 x1 x2 x3 u → pv_8_listCalls_19 Q2 x1 x2 x3 u := fun a => a (fun x1 x2 x3 u => pv_8_listCalls_19 Q2 x1 x2 x3 u) (fun x1 x2 x3 u b => fo_v_8_listCalls_19 (wp_v_8_listCalls_19b (fun r0 r1 r2 r3 a => a) hQ b))
def pv_8_listCalls (a0 : Int) (Q : iST → Prop) (u : iST) : Prop :=
  rd (u.1 34) (fun v1 => 
  pv_10_listParts v1 (fun v2 u => 
  sw (iI u 35 0) (fun u => 
  pv_8_listCalls_19 Q a0 v2 0 u)) u)
theorem cj_v_8_listCalls {Q1 Q2 Q3 : iST → Prop}  {a0 : Int} {u : iST} (hQ : ∀ r0, Q1 r0 → Q2 r0 → Q3 r0) : v_8_listCalls a0 Q1 u → pv_8_listCalls a0 Q2 u → v_8_listCalls a0 Q3 u := (rd_cj fun _ => (cj_v_10_listParts (fun _ _ => (sw_cj fun _ => (cj_v_8_listCalls_19  hQ)))))
theorem mn_v_8_listCalls {Q1 Q2 : iST → Prop}  {a0 : Int} {u : iST} (hQ : ∀ r0, Q1 r0 → Q2 r0) : pv_8_listCalls a0 Q1 u → pv_8_listCalls a0 Q2 u := (rd_mn fun _ => (mn_v_10_listParts (fun _ _ => (sw_mn fun _ => (mn_v_8_listCalls_19  hQ)))))
theorem wp_v_8_listCalls {Q1 Q2 : iST → Prop}  {a0 : Int} {u : iST} (hQ : ∀ r0, Q1 r0 → Q2 r0) : v_8_listCalls a0 Q1 u → pv_8_listCalls a0 Q2 u := (rd_wp fun _ => (wp_v_10_listParts (fun _ _ => (sw_wp fun _ => (wp_v_8_listCalls_19  hQ)))))
def pv_10_unbind (Q : iST → Prop) (u : iST) : Prop :=
  sw (iI u 39 0) (fun u => 
  Q u)
theorem cj_v_10_unbind {Q1 Q2 Q3 : iST → Prop}  {u : iST} (hQ : ∀ r0, Q1 r0 → Q2 r0 → Q3 r0) : v_10_unbind Q1 u → pv_10_unbind Q2 u → v_10_unbind Q3 u := (sw_cj fun _ => (hQ _))
theorem mn_v_10_unbind {Q1 Q2 : iST → Prop}  {u : iST} (hQ : ∀ r0, Q1 r0 → Q2 r0) : pv_10_unbind Q1 u → pv_10_unbind Q2 u := (sw_mn fun _ => (hQ _))
theorem wp_v_10_unbind {Q1 Q2 : iST → Prop}  {u : iST} (hQ : ∀ r0, Q1 r0 → Q2 r0) : v_10_unbind Q1 u → pv_10_unbind Q2 u := (sw_wp fun _ => (hQ _))
def pv_8_addInductionHypotheses_119b (R16 : Int → Int → Int → Int → Int → iST → Prop) (R119 : Int → Int → Int → Int → Int → Int → iST → Prop) (Q : iST → Prop) (x1 : Int) (x2 : Int) (x3 : Int) (x4 : Int) (x5 : Int) (x6 : Int) (u : iST) : Prop :=
  bdp x3 40 (rd (u.2.1 2 x3) (fun v9 => 
  br (v9 ≤ x6) (
    pv_10_rebuilt x2 1 (fun v10 u => 
    pv_10_negated v10 (fun v11 u => 
    pv_10_join x1 v11 (fun u => 
    ovp (x5 + 1) (
    R16 x1 x2 x3 x4 (x5 + 1) u)) u) u) u) (
    pv_7_item x4 x6 (fun v14 u => 
    bdp x6 6 (rd (u.2.1 34 x6) (fun v15 => 
    pv_10_bind v14 v15 (fun u => 
    ovp (x6 + 1) (
    R119 x1 x2 x3 x4 x5 (x6 + 1) u)) u))) u)))
theorem cj_v_8_addInductionHypotheses_119b {Q1 Q2 Q3 : iST → Prop} {R161 R162 R163 : Int → Int → Int → Int → Int → iST → Prop} {R1191 R1192 R1193 : Int → Int → Int → Int → Int → Int → iST → Prop} {x1 : Int} {x2 : Int} {x3 : Int} {x4 : Int} {x5 : Int} {x6 : Int} {u : iST} (hR16 : ∀ r0 r1 r2 r3 r4 r5, R161 r0 r1 r2 r3 r4 r5 → R162 r0 r1 r2 r3 r4 r5 → R163 r0 r1 r2 r3 r4 r5) (hR119 : ∀ r0 r1 r2 r3 r4 r5 r6, R1191 r0 r1 r2 r3 r4 r5 r6 → R1192 r0 r1 r2 r3 r4 r5 r6 → R1193 r0 r1 r2 r3 r4 r5 r6) (hQ : ∀ r0, Q1 r0 → Q2 r0 → Q3 r0) : v_8_addInductionHypotheses_119b R161 R1191 Q1 x1 x2 x3 x4 x5 x6 u → pv_8_addInductionHypotheses_119b R162 R1192 Q2 x1 x2 x3 x4 x5 x6 u → v_8_addInductionHypotheses_119b R163 R1193 Q3 x1 x2 x3 x4 x5 x6 u := (bd_cj (rd_cj fun _ => (br_cj (cj_v_10_rebuilt (fun _ _ => (cj_v_10_negated (fun _ _ => (cj_v_10_join (fun _ => (ov_cj (hR16 _ _ _ _ _ _)))))))) (cj_v_7_item (fun _ _ => (bd_cj (rd_cj fun _ => (cj_v_10_bind (fun _ => (ov_cj (hR119 _ _ _ _ _ _ _)))))))))))
theorem mn_v_8_addInductionHypotheses_119b {Q1 Q2 : iST → Prop} {R161 R162 : Int → Int → Int → Int → Int → iST → Prop} {R1191 R1192 : Int → Int → Int → Int → Int → Int → iST → Prop} {x1 : Int} {x2 : Int} {x3 : Int} {x4 : Int} {x5 : Int} {x6 : Int} {u : iST} (hR16 : ∀ r0 r1 r2 r3 r4 r5, R161 r0 r1 r2 r3 r4 r5 → R162 r0 r1 r2 r3 r4 r5) (hR119 : ∀ r0 r1 r2 r3 r4 r5 r6, R1191 r0 r1 r2 r3 r4 r5 r6 → R1192 r0 r1 r2 r3 r4 r5 r6) (hQ : ∀ r0, Q1 r0 → Q2 r0) : pv_8_addInductionHypotheses_119b R161 R1191 Q1 x1 x2 x3 x4 x5 x6 u → pv_8_addInductionHypotheses_119b R162 R1192 Q2 x1 x2 x3 x4 x5 x6 u := (bd_mn (rd_mn fun _ => (br_mn (mn_v_10_rebuilt (fun _ _ => (mn_v_10_negated (fun _ _ => (mn_v_10_join (fun _ => (ov_mn (hR16 _ _ _ _ _ _)))))))) (mn_v_7_item (fun _ _ => (bd_mn (rd_mn fun _ => (mn_v_10_bind (fun _ => (ov_mn (hR119 _ _ _ _ _ _ _)))))))))))
theorem wp_v_8_addInductionHypotheses_119b {Q1 Q2 : iST → Prop} {R161 R162 : Int → Int → Int → Int → Int → iST → Prop} {R1191 R1192 : Int → Int → Int → Int → Int → Int → iST → Prop} {x1 : Int} {x2 : Int} {x3 : Int} {x4 : Int} {x5 : Int} {x6 : Int} {u : iST} (hR16 : ∀ r0 r1 r2 r3 r4 r5, R161 r0 r1 r2 r3 r4 r5 → R162 r0 r1 r2 r3 r4 r5) (hR119 : ∀ r0 r1 r2 r3 r4 r5 r6, R1191 r0 r1 r2 r3 r4 r5 r6 → R1192 r0 r1 r2 r3 r4 r5 r6) (hQ : ∀ r0, Q1 r0 → Q2 r0) : v_8_addInductionHypotheses_119b R161 R1191 Q1 x1 x2 x3 x4 x5 x6 u → pv_8_addInductionHypotheses_119b R162 R1192 Q2 x1 x2 x3 x4 x5 x6 u := (bd_wp (rd_wp fun _ => (br_wp (wp_v_10_rebuilt (fun _ _ => (wp_v_10_negated (fun _ _ => (wp_v_10_join (fun _ => (ov_wp (hR16 _ _ _ _ _ _)))))))) (wp_v_7_item (fun _ _ => (bd_wp (rd_wp fun _ => (wp_v_10_bind (fun _ => (ov_wp (hR119 _ _ _ _ _ _ _)))))))))))
def pv_8_addInductionHypotheses_119 (R16 : Int → Int → Int → Int → Int → iST → Prop) (Q : iST → Prop) (x1 : Int) (x2 : Int) (x3 : Int) (x4 : Int) (x5 : Int) (x6 : Int) (u : iST) : Prop := ∃ R119 : Int → Int → Int → Int → Int → Int → iST → Prop, (∀ (x1 : Int) (x2 : Int) (x3 : Int) (x4 : Int) (x5 : Int) (x6 : Int) (u : iST), R119 x1 x2 x3 x4 x5 x6 u → pv_8_addInductionHypotheses_119b R16 R119 Q x1 x2 x3 x4 x5 x6 u) ∧ R119 x1 x2 x3 x4 x5 x6 u
theorem cj_v_8_addInductionHypotheses_119 {Q1 Q2 Q3 : iST → Prop} {R161 R162 R163 : Int → Int → Int → Int → Int → iST → Prop} {x1 : Int} {x2 : Int} {x3 : Int} {x4 : Int} {x5 : Int} {x6 : Int} {u : iST} (hR16 : ∀ r0 r1 r2 r3 r4 r5, R161 r0 r1 r2 r3 r4 r5 → R162 r0 r1 r2 r3 r4 r5 → R163 r0 r1 r2 r3 r4 r5) (hQ : ∀ r0, Q1 r0 → Q2 r0 → Q3 r0) : v_8_addInductionHypotheses_119 R161 Q1 x1 x2 x3 x4 x5 x6 u → pv_8_addInductionHypotheses_119 R162 Q2 x1 x2 x3 x4 x5 x6 u → v_8_addInductionHypotheses_119 R163 Q3 x1 x2 x3 x4 x5 x6 u := by
  intro a b R3 c3
  obtain ⟨R2, c2, b2⟩ := b
  exact a (fun r0 r1 r2 r3 r4 r5 r6 => R2 r0 r1 r2 r3 r4 r5 r6 → R3 r0 r1 r2 r3 r4 r5 r6) (fun r0 r1 r2 r3 r4 r5 r6 a b => c3 r0 r1 r2 r3 r4 r5 r6 (cj_v_8_addInductionHypotheses_119b hR16 (fun r0 r1 r2 r3 r4 r5 r6 a b => a b) hQ a (c2 r0 r1 r2 r3 r4 r5 r6 b))) b2
theorem pv_8_addInductionHypotheses_119_i {R16 : Int → Int → Int → Int → Int → iST → Prop} {Q : iST → Prop} {x1 : Int} {x2 : Int} {x3 : Int} {x4 : Int} {x5 : Int} {x6 : Int} {u : iST} (I : Int → Int → Int → Int → Int → Int → iST → Prop) (s : ∀ (x1 : Int) (x2 : Int) (x3 : Int) (x4 : Int) (x5 : Int) (x6 : Int) (u : iST), I x1 x2 x3 x4 x5 x6 u → pv_8_addInductionHypotheses_119b R16 I Q x1 x2 x3 x4 x5 x6 u) (h : I x1 x2 x3 x4 x5 x6 u) : pv_8_addInductionHypotheses_119 R16 Q x1 x2 x3 x4 x5 x6 u := ⟨I, s, h⟩
theorem mn_v_8_addInductionHypotheses_119 {Q1 Q2 : iST → Prop} {R161 R162 : Int → Int → Int → Int → Int → iST → Prop} {x1 : Int} {x2 : Int} {x3 : Int} {x4 : Int} {x5 : Int} {x6 : Int} {u : iST} (hR16 : ∀ r0 r1 r2 r3 r4 r5, R161 r0 r1 r2 r3 r4 r5 → R162 r0 r1 r2 r3 r4 r5) (hQ : ∀ r0, Q1 r0 → Q2 r0) : pv_8_addInductionHypotheses_119 R161 Q1 x1 x2 x3 x4 x5 x6 u → pv_8_addInductionHypotheses_119 R162 Q2 x1 x2 x3 x4 x5 x6 u := fun ⟨R, s, h⟩ => ⟨R, fun r0 r1 r2 r3 r4 r5 r6 a => mn_v_8_addInductionHypotheses_119b hR16 (fun r0 r1 r2 r3 r4 r5 r6 a => a) hQ (s r0 r1 r2 r3 r4 r5 r6 a), h⟩
theorem un_v_8_addInductionHypotheses_119 {R16 : Int → Int → Int → Int → Int → iST → Prop} {Q : iST → Prop} {x1 : Int} {x2 : Int} {x3 : Int} {x4 : Int} {x5 : Int} {x6 : Int} {u : iST} : pv_8_addInductionHypotheses_119 R16 Q x1 x2 x3 x4 x5 x6 u → pv_8_addInductionHypotheses_119b R16 (fun x1 x2 x3 x4 x5 x6 u => pv_8_addInductionHypotheses_119 R16 Q x1 x2 x3 x4 x5 x6 u) Q x1 x2 x3 x4 x5 x6 u := fun ⟨R, s, h⟩ => mn_v_8_addInductionHypotheses_119b (fun _ _ _ _ _ _ h => h) (fun r0 r1 r2 r3 r4 r5 r6 a => ⟨R, s, a⟩) (fun _ h => h) (s _ _ _ _ _ _ _ h)
theorem fo_v_8_addInductionHypotheses_119 {R16 : Int → Int → Int → Int → Int → iST → Prop} {Q : iST → Prop} {x1 : Int} {x2 : Int} {x3 : Int} {x4 : Int} {x5 : Int} {x6 : Int} {u : iST} : pv_8_addInductionHypotheses_119b R16 (fun x1 x2 x3 x4 x5 x6 u => pv_8_addInductionHypotheses_119 R16 Q x1 x2 x3 x4 x5 x6 u) Q x1 x2 x3 x4 x5 x6 u → pv_8_addInductionHypotheses_119 R16 Q x1 x2 x3 x4 x5 x6 u := fun h => ⟨fun x1 x2 x3 x4 x5 x6 u => pv_8_addInductionHypotheses_119b R16 (fun x1 x2 x3 x4 x5 x6 u => pv_8_addInductionHypotheses_119 R16 Q x1 x2 x3 x4 x5 x6 u) Q x1 x2 x3 x4 x5 x6 u, fun r0 r1 r2 r3 r4 r5 r6 a => mn_v_8_addInductionHypotheses_119b (fun _ _ _ _ _ _ h => h) (fun r0 r1 r2 r3 r4 r5 r6 a => un_v_8_addInductionHypotheses_119 a) (fun _ h => h) a, h⟩
theorem wp_v_8_addInductionHypotheses_119 {Q1 Q2 : iST → Prop} {R161 R162 : Int → Int → Int → Int → Int → iST → Prop} {x1 : Int} {x2 : Int} {x3 : Int} {x4 : Int} {x5 : Int} {x6 : Int} {u : iST} (hR16 : ∀ r0 r1 r2 r3 r4 r5, R161 r0 r1 r2 r3 r4 r5 → R162 r0 r1 r2 r3 r4 r5) (hQ : ∀ r0, Q1 r0 → Q2 r0) : v_8_addInductionHypotheses_119 R161 Q1 x1 x2 x3 x4 x5 x6 u → pv_8_addInductionHypotheses_119 R162 Q2 x1 x2 x3 x4 x5 x6 u := fun a => a (fun x1 x2 x3 x4 x5 x6 u => pv_8_addInductionHypotheses_119 R162 Q2 x1 x2 x3 x4 x5 x6 u) (fun x1 x2 x3 x4 x5 x6 u b => fo_v_8_addInductionHypotheses_119 (wp_v_8_addInductionHypotheses_119b hR16 (fun r0 r1 r2 r3 r4 r5 r6 a => a) hQ b))
def pv_8_addInductionHypotheses_56b (R16 : Int → Int → Int → Int → Int → iST → Prop) (R56 : Int → Int → Int → Int → Int → Int → iST → Prop) (Q : iST → Prop) (x1 : Int) (x2 : Int) (x3 : Int) (x4 : Int) (x5 : Int) (x6 : Int) (u : iST) : Prop :=
  bdp x3 40 (rd (u.2.1 2 x3) (fun v7 => 
  br (v7 ≤ x6) (
    pv_10_unbind (fun u => 
    pv_8_addInductionHypotheses_119 R16 Q x1 x2 x3 x4 x5 0 u) u) (
    bdp x5 128 (rd (u.2.1 33 x5) (fun v18 => 
    ovp (x6 + 1) (
    pv_7_item v18 (x6 + 1) (fun v20 u => 
    pv_10_rebuilt v20 1 (fun v21 u => 
    bdp x6 6 (sw (iA u 34 x6 v21) (fun u => 
    ovp (x6 + 1) (
    R56 x1 x2 x3 x4 x5 (x6 + 1) u)))) u) u))))))
theorem cj_v_8_addInductionHypotheses_56b {Q1 Q2 Q3 : iST → Prop} {R161 R162 R163 : Int → Int → Int → Int → Int → iST → Prop} {R561 R562 R563 : Int → Int → Int → Int → Int → Int → iST → Prop} {x1 : Int} {x2 : Int} {x3 : Int} {x4 : Int} {x5 : Int} {x6 : Int} {u : iST} (hR16 : ∀ r0 r1 r2 r3 r4 r5, R161 r0 r1 r2 r3 r4 r5 → R162 r0 r1 r2 r3 r4 r5 → R163 r0 r1 r2 r3 r4 r5) (hR56 : ∀ r0 r1 r2 r3 r4 r5 r6, R561 r0 r1 r2 r3 r4 r5 r6 → R562 r0 r1 r2 r3 r4 r5 r6 → R563 r0 r1 r2 r3 r4 r5 r6) (hQ : ∀ r0, Q1 r0 → Q2 r0 → Q3 r0) : v_8_addInductionHypotheses_56b R161 R561 Q1 x1 x2 x3 x4 x5 x6 u → pv_8_addInductionHypotheses_56b R162 R562 Q2 x1 x2 x3 x4 x5 x6 u → v_8_addInductionHypotheses_56b R163 R563 Q3 x1 x2 x3 x4 x5 x6 u := (bd_cj (rd_cj fun _ => (br_cj (cj_v_10_unbind (fun _ => (cj_v_8_addInductionHypotheses_119 hR16 hQ))) (bd_cj (rd_cj fun _ => (ov_cj (cj_v_7_item (fun _ _ => (cj_v_10_rebuilt (fun _ _ => (bd_cj (sw_cj fun _ => (ov_cj (hR56 _ _ _ _ _ _ _))))))))))))))
theorem mn_v_8_addInductionHypotheses_56b {Q1 Q2 : iST → Prop} {R161 R162 : Int → Int → Int → Int → Int → iST → Prop} {R561 R562 : Int → Int → Int → Int → Int → Int → iST → Prop} {x1 : Int} {x2 : Int} {x3 : Int} {x4 : Int} {x5 : Int} {x6 : Int} {u : iST} (hR16 : ∀ r0 r1 r2 r3 r4 r5, R161 r0 r1 r2 r3 r4 r5 → R162 r0 r1 r2 r3 r4 r5) (hR56 : ∀ r0 r1 r2 r3 r4 r5 r6, R561 r0 r1 r2 r3 r4 r5 r6 → R562 r0 r1 r2 r3 r4 r5 r6) (hQ : ∀ r0, Q1 r0 → Q2 r0) : pv_8_addInductionHypotheses_56b R161 R561 Q1 x1 x2 x3 x4 x5 x6 u → pv_8_addInductionHypotheses_56b R162 R562 Q2 x1 x2 x3 x4 x5 x6 u := (bd_mn (rd_mn fun _ => (br_mn (mn_v_10_unbind (fun _ => (mn_v_8_addInductionHypotheses_119 hR16 hQ))) (bd_mn (rd_mn fun _ => (ov_mn (mn_v_7_item (fun _ _ => (mn_v_10_rebuilt (fun _ _ => (bd_mn (sw_mn fun _ => (ov_mn (hR56 _ _ _ _ _ _ _))))))))))))))
theorem wp_v_8_addInductionHypotheses_56b {Q1 Q2 : iST → Prop} {R161 R162 : Int → Int → Int → Int → Int → iST → Prop} {R561 R562 : Int → Int → Int → Int → Int → Int → iST → Prop} {x1 : Int} {x2 : Int} {x3 : Int} {x4 : Int} {x5 : Int} {x6 : Int} {u : iST} (hR16 : ∀ r0 r1 r2 r3 r4 r5, R161 r0 r1 r2 r3 r4 r5 → R162 r0 r1 r2 r3 r4 r5) (hR56 : ∀ r0 r1 r2 r3 r4 r5 r6, R561 r0 r1 r2 r3 r4 r5 r6 → R562 r0 r1 r2 r3 r4 r5 r6) (hQ : ∀ r0, Q1 r0 → Q2 r0) : v_8_addInductionHypotheses_56b R161 R561 Q1 x1 x2 x3 x4 x5 x6 u → pv_8_addInductionHypotheses_56b R162 R562 Q2 x1 x2 x3 x4 x5 x6 u := (bd_wp (rd_wp fun _ => (br_wp (wp_v_10_unbind (fun _ => (wp_v_8_addInductionHypotheses_119 hR16 hQ))) (bd_wp (rd_wp fun _ => (ov_wp (wp_v_7_item (fun _ _ => (wp_v_10_rebuilt (fun _ _ => (bd_wp (sw_wp fun _ => (ov_wp (hR56 _ _ _ _ _ _ _))))))))))))))
def pv_8_addInductionHypotheses_56 (R16 : Int → Int → Int → Int → Int → iST → Prop) (Q : iST → Prop) (x1 : Int) (x2 : Int) (x3 : Int) (x4 : Int) (x5 : Int) (x6 : Int) (u : iST) : Prop := ∃ R56 : Int → Int → Int → Int → Int → Int → iST → Prop, (∀ (x1 : Int) (x2 : Int) (x3 : Int) (x4 : Int) (x5 : Int) (x6 : Int) (u : iST), R56 x1 x2 x3 x4 x5 x6 u → pv_8_addInductionHypotheses_56b R16 R56 Q x1 x2 x3 x4 x5 x6 u) ∧ R56 x1 x2 x3 x4 x5 x6 u
theorem cj_v_8_addInductionHypotheses_56 {Q1 Q2 Q3 : iST → Prop} {R161 R162 R163 : Int → Int → Int → Int → Int → iST → Prop} {x1 : Int} {x2 : Int} {x3 : Int} {x4 : Int} {x5 : Int} {x6 : Int} {u : iST} (hR16 : ∀ r0 r1 r2 r3 r4 r5, R161 r0 r1 r2 r3 r4 r5 → R162 r0 r1 r2 r3 r4 r5 → R163 r0 r1 r2 r3 r4 r5) (hQ : ∀ r0, Q1 r0 → Q2 r0 → Q3 r0) : v_8_addInductionHypotheses_56 R161 Q1 x1 x2 x3 x4 x5 x6 u → pv_8_addInductionHypotheses_56 R162 Q2 x1 x2 x3 x4 x5 x6 u → v_8_addInductionHypotheses_56 R163 Q3 x1 x2 x3 x4 x5 x6 u := by
  intro a b R3 c3
  obtain ⟨R2, c2, b2⟩ := b
  exact a (fun r0 r1 r2 r3 r4 r5 r6 => R2 r0 r1 r2 r3 r4 r5 r6 → R3 r0 r1 r2 r3 r4 r5 r6) (fun r0 r1 r2 r3 r4 r5 r6 a b => c3 r0 r1 r2 r3 r4 r5 r6 (cj_v_8_addInductionHypotheses_56b hR16 (fun r0 r1 r2 r3 r4 r5 r6 a b => a b) hQ a (c2 r0 r1 r2 r3 r4 r5 r6 b))) b2
theorem pv_8_addInductionHypotheses_56_i {R16 : Int → Int → Int → Int → Int → iST → Prop} {Q : iST → Prop} {x1 : Int} {x2 : Int} {x3 : Int} {x4 : Int} {x5 : Int} {x6 : Int} {u : iST} (I : Int → Int → Int → Int → Int → Int → iST → Prop) (s : ∀ (x1 : Int) (x2 : Int) (x3 : Int) (x4 : Int) (x5 : Int) (x6 : Int) (u : iST), I x1 x2 x3 x4 x5 x6 u → pv_8_addInductionHypotheses_56b R16 I Q x1 x2 x3 x4 x5 x6 u) (h : I x1 x2 x3 x4 x5 x6 u) : pv_8_addInductionHypotheses_56 R16 Q x1 x2 x3 x4 x5 x6 u := ⟨I, s, h⟩
theorem mn_v_8_addInductionHypotheses_56 {Q1 Q2 : iST → Prop} {R161 R162 : Int → Int → Int → Int → Int → iST → Prop} {x1 : Int} {x2 : Int} {x3 : Int} {x4 : Int} {x5 : Int} {x6 : Int} {u : iST} (hR16 : ∀ r0 r1 r2 r3 r4 r5, R161 r0 r1 r2 r3 r4 r5 → R162 r0 r1 r2 r3 r4 r5) (hQ : ∀ r0, Q1 r0 → Q2 r0) : pv_8_addInductionHypotheses_56 R161 Q1 x1 x2 x3 x4 x5 x6 u → pv_8_addInductionHypotheses_56 R162 Q2 x1 x2 x3 x4 x5 x6 u := fun ⟨R, s, h⟩ => ⟨R, fun r0 r1 r2 r3 r4 r5 r6 a => mn_v_8_addInductionHypotheses_56b hR16 (fun r0 r1 r2 r3 r4 r5 r6 a => a) hQ (s r0 r1 r2 r3 r4 r5 r6 a), h⟩
theorem un_v_8_addInductionHypotheses_56 {R16 : Int → Int → Int → Int → Int → iST → Prop} {Q : iST → Prop} {x1 : Int} {x2 : Int} {x3 : Int} {x4 : Int} {x5 : Int} {x6 : Int} {u : iST} : pv_8_addInductionHypotheses_56 R16 Q x1 x2 x3 x4 x5 x6 u → pv_8_addInductionHypotheses_56b R16 (fun x1 x2 x3 x4 x5 x6 u => pv_8_addInductionHypotheses_56 R16 Q x1 x2 x3 x4 x5 x6 u) Q x1 x2 x3 x4 x5 x6 u := fun ⟨R, s, h⟩ => mn_v_8_addInductionHypotheses_56b (fun _ _ _ _ _ _ h => h) (fun r0 r1 r2 r3 r4 r5 r6 a => ⟨R, s, a⟩) (fun _ h => h) (s _ _ _ _ _ _ _ h)
theorem fo_v_8_addInductionHypotheses_56 {R16 : Int → Int → Int → Int → Int → iST → Prop} {Q : iST → Prop} {x1 : Int} {x2 : Int} {x3 : Int} {x4 : Int} {x5 : Int} {x6 : Int} {u : iST} : pv_8_addInductionHypotheses_56b R16 (fun x1 x2 x3 x4 x5 x6 u => pv_8_addInductionHypotheses_56 R16 Q x1 x2 x3 x4 x5 x6 u) Q x1 x2 x3 x4 x5 x6 u → pv_8_addInductionHypotheses_56 R16 Q x1 x2 x3 x4 x5 x6 u := fun h => ⟨fun x1 x2 x3 x4 x5 x6 u => pv_8_addInductionHypotheses_56b R16 (fun x1 x2 x3 x4 x5 x6 u => pv_8_addInductionHypotheses_56 R16 Q x1 x2 x3 x4 x5 x6 u) Q x1 x2 x3 x4 x5 x6 u, fun r0 r1 r2 r3 r4 r5 r6 a => mn_v_8_addInductionHypotheses_56b (fun _ _ _ _ _ _ h => h) (fun r0 r1 r2 r3 r4 r5 r6 a => un_v_8_addInductionHypotheses_56 a) (fun _ h => h) a, h⟩
theorem wp_v_8_addInductionHypotheses_56 {Q1 Q2 : iST → Prop} {R161 R162 : Int → Int → Int → Int → Int → iST → Prop} {x1 : Int} {x2 : Int} {x3 : Int} {x4 : Int} {x5 : Int} {x6 : Int} {u : iST} (hR16 : ∀ r0 r1 r2 r3 r4 r5, R161 r0 r1 r2 r3 r4 r5 → R162 r0 r1 r2 r3 r4 r5) (hQ : ∀ r0, Q1 r0 → Q2 r0) : v_8_addInductionHypotheses_56 R161 Q1 x1 x2 x3 x4 x5 x6 u → pv_8_addInductionHypotheses_56 R162 Q2 x1 x2 x3 x4 x5 x6 u := fun a => a (fun x1 x2 x3 x4 x5 x6 u => pv_8_addInductionHypotheses_56 R162 Q2 x1 x2 x3 x4 x5 x6 u) (fun x1 x2 x3 x4 x5 x6 u b => fo_v_8_addInductionHypotheses_56 (wp_v_8_addInductionHypotheses_56b hR16 (fun r0 r1 r2 r3 r4 r5 r6 a => a) hQ b))
def pv_8_addInductionHypotheses_16b (R16 : Int → Int → Int → Int → Int → iST → Prop) (Q : iST → Prop) (x1 : Int) (x2 : Int) (x3 : Int) (x4 : Int) (x5 : Int) (u : iST) : Prop :=
  rd (u.1 35) (fun v3 => 
  br (v3 ≤ x5) (
    Q u) (
    rd (u.1 32) (fun v4 => 
    br (v4 ≠ 0) (
      Q u) (
      bdp x3 40 (rd (u.2.1 1 x3) (fun v5 => 
      pv_10_bindRow v5 x4 (fun u => 
      pv_8_addInductionHypotheses_56 R16 Q x1 x2 x3 x4 x5 0 u) u))))))
theorem cj_v_8_addInductionHypotheses_16b {Q1 Q2 Q3 : iST → Prop} {R161 R162 R163 : Int → Int → Int → Int → Int → iST → Prop} {x1 : Int} {x2 : Int} {x3 : Int} {x4 : Int} {x5 : Int} {u : iST} (hR16 : ∀ r0 r1 r2 r3 r4 r5, R161 r0 r1 r2 r3 r4 r5 → R162 r0 r1 r2 r3 r4 r5 → R163 r0 r1 r2 r3 r4 r5) (hQ : ∀ r0, Q1 r0 → Q2 r0 → Q3 r0) : v_8_addInductionHypotheses_16b R161 Q1 x1 x2 x3 x4 x5 u → pv_8_addInductionHypotheses_16b R162 Q2 x1 x2 x3 x4 x5 u → v_8_addInductionHypotheses_16b R163 Q3 x1 x2 x3 x4 x5 u := (rd_cj fun _ => (br_cj (hQ _) (rd_cj fun _ => (br_cj (hQ _) (bd_cj (rd_cj fun _ => (cj_v_10_bindRow (fun _ => (cj_v_8_addInductionHypotheses_56 hR16 hQ)))))))))
theorem mn_v_8_addInductionHypotheses_16b {Q1 Q2 : iST → Prop} {R161 R162 : Int → Int → Int → Int → Int → iST → Prop} {x1 : Int} {x2 : Int} {x3 : Int} {x4 : Int} {x5 : Int} {u : iST} (hR16 : ∀ r0 r1 r2 r3 r4 r5, R161 r0 r1 r2 r3 r4 r5 → R162 r0 r1 r2 r3 r4 r5) (hQ : ∀ r0, Q1 r0 → Q2 r0) : pv_8_addInductionHypotheses_16b R161 Q1 x1 x2 x3 x4 x5 u → pv_8_addInductionHypotheses_16b R162 Q2 x1 x2 x3 x4 x5 u := (rd_mn fun _ => (br_mn (hQ _) (rd_mn fun _ => (br_mn (hQ _) (bd_mn (rd_mn fun _ => (mn_v_10_bindRow (fun _ => (mn_v_8_addInductionHypotheses_56 hR16 hQ)))))))))
theorem wp_v_8_addInductionHypotheses_16b {Q1 Q2 : iST → Prop} {R161 R162 : Int → Int → Int → Int → Int → iST → Prop} {x1 : Int} {x2 : Int} {x3 : Int} {x4 : Int} {x5 : Int} {u : iST} (hR16 : ∀ r0 r1 r2 r3 r4 r5, R161 r0 r1 r2 r3 r4 r5 → R162 r0 r1 r2 r3 r4 r5) (hQ : ∀ r0, Q1 r0 → Q2 r0) : v_8_addInductionHypotheses_16b R161 Q1 x1 x2 x3 x4 x5 u → pv_8_addInductionHypotheses_16b R162 Q2 x1 x2 x3 x4 x5 u := (rd_wp fun _ => (br_wp (hQ _) (rd_wp fun _ => (br_wp (hQ _) (bd_wp (rd_wp fun _ => (wp_v_10_bindRow (fun _ => (wp_v_8_addInductionHypotheses_56 hR16 hQ)))))))))
def pv_8_addInductionHypotheses_16 (Q : iST → Prop) (x1 : Int) (x2 : Int) (x3 : Int) (x4 : Int) (x5 : Int) (u : iST) : Prop := ∃ R16 : Int → Int → Int → Int → Int → iST → Prop, (∀ (x1 : Int) (x2 : Int) (x3 : Int) (x4 : Int) (x5 : Int) (u : iST), R16 x1 x2 x3 x4 x5 u → pv_8_addInductionHypotheses_16b R16 Q x1 x2 x3 x4 x5 u) ∧ R16 x1 x2 x3 x4 x5 u
theorem cj_v_8_addInductionHypotheses_16 {Q1 Q2 Q3 : iST → Prop}  {x1 : Int} {x2 : Int} {x3 : Int} {x4 : Int} {x5 : Int} {u : iST} (hQ : ∀ r0, Q1 r0 → Q2 r0 → Q3 r0) : v_8_addInductionHypotheses_16 Q1 x1 x2 x3 x4 x5 u → pv_8_addInductionHypotheses_16 Q2 x1 x2 x3 x4 x5 u → v_8_addInductionHypotheses_16 Q3 x1 x2 x3 x4 x5 u := by
  intro a b R3 c3
  obtain ⟨R2, c2, b2⟩ := b
  exact a (fun r0 r1 r2 r3 r4 r5 => R2 r0 r1 r2 r3 r4 r5 → R3 r0 r1 r2 r3 r4 r5) (fun r0 r1 r2 r3 r4 r5 a b => c3 r0 r1 r2 r3 r4 r5 (cj_v_8_addInductionHypotheses_16b (fun r0 r1 r2 r3 r4 r5 a b => a b) hQ a (c2 r0 r1 r2 r3 r4 r5 b))) b2
theorem pv_8_addInductionHypotheses_16_i  {Q : iST → Prop} {x1 : Int} {x2 : Int} {x3 : Int} {x4 : Int} {x5 : Int} {u : iST} (I : Int → Int → Int → Int → Int → iST → Prop) (s : ∀ (x1 : Int) (x2 : Int) (x3 : Int) (x4 : Int) (x5 : Int) (u : iST), I x1 x2 x3 x4 x5 u → pv_8_addInductionHypotheses_16b I Q x1 x2 x3 x4 x5 u) (h : I x1 x2 x3 x4 x5 u) : pv_8_addInductionHypotheses_16 Q x1 x2 x3 x4 x5 u := ⟨I, s, h⟩
theorem mn_v_8_addInductionHypotheses_16 {Q1 Q2 : iST → Prop}  {x1 : Int} {x2 : Int} {x3 : Int} {x4 : Int} {x5 : Int} {u : iST} (hQ : ∀ r0, Q1 r0 → Q2 r0) : pv_8_addInductionHypotheses_16 Q1 x1 x2 x3 x4 x5 u → pv_8_addInductionHypotheses_16 Q2 x1 x2 x3 x4 x5 u := fun ⟨R, s, h⟩ => ⟨R, fun r0 r1 r2 r3 r4 r5 a => mn_v_8_addInductionHypotheses_16b (fun r0 r1 r2 r3 r4 r5 a => a) hQ (s r0 r1 r2 r3 r4 r5 a), h⟩
theorem un_v_8_addInductionHypotheses_16  {Q : iST → Prop} {x1 : Int} {x2 : Int} {x3 : Int} {x4 : Int} {x5 : Int} {u : iST} : pv_8_addInductionHypotheses_16 Q x1 x2 x3 x4 x5 u → pv_8_addInductionHypotheses_16b (fun x1 x2 x3 x4 x5 u => pv_8_addInductionHypotheses_16 Q x1 x2 x3 x4 x5 u) Q x1 x2 x3 x4 x5 u := fun ⟨R, s, h⟩ => mn_v_8_addInductionHypotheses_16b (fun r0 r1 r2 r3 r4 r5 a => ⟨R, s, a⟩) (fun _ h => h) (s _ _ _ _ _ _ h)
theorem fo_v_8_addInductionHypotheses_16  {Q : iST → Prop} {x1 : Int} {x2 : Int} {x3 : Int} {x4 : Int} {x5 : Int} {u : iST} : pv_8_addInductionHypotheses_16b (fun x1 x2 x3 x4 x5 u => pv_8_addInductionHypotheses_16 Q x1 x2 x3 x4 x5 u) Q x1 x2 x3 x4 x5 u → pv_8_addInductionHypotheses_16 Q x1 x2 x3 x4 x5 u := fun h => ⟨fun x1 x2 x3 x4 x5 u => pv_8_addInductionHypotheses_16b (fun x1 x2 x3 x4 x5 u => pv_8_addInductionHypotheses_16 Q x1 x2 x3 x4 x5 u) Q x1 x2 x3 x4 x5 u, fun r0 r1 r2 r3 r4 r5 a => mn_v_8_addInductionHypotheses_16b (fun r0 r1 r2 r3 r4 r5 a => un_v_8_addInductionHypotheses_16 a) (fun _ h => h) a, h⟩
theorem wp_v_8_addInductionHypotheses_16 {Q1 Q2 : iST → Prop}  {x1 : Int} {x2 : Int} {x3 : Int} {x4 : Int} {x5 : Int} {u : iST} (hQ : ∀ r0, Q1 r0 → Q2 r0) : v_8_addInductionHypotheses_16 Q1 x1 x2 x3 x4 x5 u → pv_8_addInductionHypotheses_16 Q2 x1 x2 x3 x4 x5 u := fun a => a (fun x1 x2 x3 x4 x5 u => pv_8_addInductionHypotheses_16 Q2 x1 x2 x3 x4 x5 u) (fun x1 x2 x3 x4 x5 u b => fo_v_8_addInductionHypotheses_16 (wp_v_8_addInductionHypotheses_16b (fun r0 r1 r2 r3 r4 r5 a => a) hQ b))
def pv_8_addInductionHypotheses (a0 : Int) (a1 : Int) (a2 : Int) (a3 : Int) (Q : iST → Prop) (u : iST) : Prop :=
  bdp a2 40 (rd (u.2.1 0 a2) (fun v1 => 
  pv_8_listCalls v1 (fun u => 
  pv_8_addInductionHypotheses_16 Q a0 a1 a2 a3 0 u) u))
theorem cj_v_8_addInductionHypotheses {Q1 Q2 Q3 : iST → Prop}  {a0 : Int} {a1 : Int} {a2 : Int} {a3 : Int} {u : iST} (hQ : ∀ r0, Q1 r0 → Q2 r0 → Q3 r0) : v_8_addInductionHypotheses a0 a1 a2 a3 Q1 u → pv_8_addInductionHypotheses a0 a1 a2 a3 Q2 u → v_8_addInductionHypotheses a0 a1 a2 a3 Q3 u := (bd_cj (rd_cj fun _ => (cj_v_8_listCalls (fun _ => (cj_v_8_addInductionHypotheses_16  hQ)))))
theorem mn_v_8_addInductionHypotheses {Q1 Q2 : iST → Prop}  {a0 : Int} {a1 : Int} {a2 : Int} {a3 : Int} {u : iST} (hQ : ∀ r0, Q1 r0 → Q2 r0) : pv_8_addInductionHypotheses a0 a1 a2 a3 Q1 u → pv_8_addInductionHypotheses a0 a1 a2 a3 Q2 u := (bd_mn (rd_mn fun _ => (mn_v_8_listCalls (fun _ => (mn_v_8_addInductionHypotheses_16  hQ)))))
theorem wp_v_8_addInductionHypotheses {Q1 Q2 : iST → Prop}  {a0 : Int} {a1 : Int} {a2 : Int} {a3 : Int} {u : iST} (hQ : ∀ r0, Q1 r0 → Q2 r0) : v_8_addInductionHypotheses a0 a1 a2 a3 Q1 u → pv_8_addInductionHypotheses a0 a1 a2 a3 Q2 u := (bd_wp (rd_wp fun _ => (wp_v_8_listCalls (fun _ => (wp_v_8_addInductionHypotheses_16  hQ)))))
def pv_3_isWithin_2b (R2 : Int → Int → Int → iST → Prop) (Q : Int → iST → Prop) (x1 : Int) (x2 : Int) (x3 : Int) (u : iST) : Prop :=
  rd (u.2.1 46 x1) (fun v1 => 
  br (v1 ≤ x3) (
    ztp 1 (Q 1 u)) (
    bdp x3 30 (rd (u.2.1 49 (30 * x1 + x3)) (fun v2 => 
    pv_1_placeOf x2 v2 (fun v3 u => 
    br (v3 ≠ (-1)) (
      ovp (x3 + 1) (
      R2 x1 x2 (x3 + 1) u)) (
      ztp 0 (Q 0 u))) u))))
theorem cj_v_3_isWithin_2b {Q1 Q2 Q3 : Int → iST → Prop} {R21 R22 R23 : Int → Int → Int → iST → Prop} {x1 : Int} {x2 : Int} {x3 : Int} {u : iST} (hR2 : ∀ r0 r1 r2 r3, R21 r0 r1 r2 r3 → R22 r0 r1 r2 r3 → R23 r0 r1 r2 r3) (hQ : ∀ r0 r1, Q1 r0 r1 → Q2 r0 r1 → Q3 r0 r1) : v_3_isWithin_2b R21 Q1 x1 x2 x3 u → pv_3_isWithin_2b R22 Q2 x1 x2 x3 u → v_3_isWithin_2b R23 Q3 x1 x2 x3 u := (rd_cj fun _ => (br_cj (zt_cj (hQ _ _)) (bd_cj (rd_cj fun _ => (cj_v_1_placeOf (fun _ _ => (br_cj (ov_cj (hR2 _ _ _ _)) (zt_cj (hQ _ _)))))))))
theorem mn_v_3_isWithin_2b {Q1 Q2 : Int → iST → Prop} {R21 R22 : Int → Int → Int → iST → Prop} {x1 : Int} {x2 : Int} {x3 : Int} {u : iST} (hR2 : ∀ r0 r1 r2 r3, R21 r0 r1 r2 r3 → R22 r0 r1 r2 r3) (hQ : ∀ r0 r1, Q1 r0 r1 → Q2 r0 r1) : pv_3_isWithin_2b R21 Q1 x1 x2 x3 u → pv_3_isWithin_2b R22 Q2 x1 x2 x3 u := (rd_mn fun _ => (br_mn (zt_mn (hQ _ _)) (bd_mn (rd_mn fun _ => (mn_v_1_placeOf (fun _ _ => (br_mn (ov_mn (hR2 _ _ _ _)) (zt_mn (hQ _ _)))))))))
theorem wp_v_3_isWithin_2b {Q1 Q2 : Int → iST → Prop} {R21 R22 : Int → Int → Int → iST → Prop} {x1 : Int} {x2 : Int} {x3 : Int} {u : iST} (hR2 : ∀ r0 r1 r2 r3, R21 r0 r1 r2 r3 → R22 r0 r1 r2 r3) (hQ : ∀ r0 r1, Q1 r0 r1 → Q2 r0 r1) : v_3_isWithin_2b R21 Q1 x1 x2 x3 u → pv_3_isWithin_2b R22 Q2 x1 x2 x3 u := (rd_wp fun _ => (br_wp (zt_wp (hQ _ _)) (bd_wp (rd_wp fun _ => (wp_v_1_placeOf (fun _ _ => (br_wp (ov_wp (hR2 _ _ _ _)) (zt_wp (hQ _ _)))))))))
