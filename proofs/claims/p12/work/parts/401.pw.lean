def pw_readWord_274 (Q : iST → Prop) (x2 : Int) (x4 : Int) (u : iST) : Prop := ∃ R274 : Int → Int → iST → Prop, (∀ (x2 : Int) (x4 : Int) (u : iST), R274 x2 x4 u → pw_readWord_274b R274 Q x2 x4 u) ∧ R274 x2 x4 u
theorem cj_w_readWord_274 {Q1 Q2 Q3 : iST → Prop}  {x2 : Int} {x4 : Int} {u : iST} (hQ : ∀ r0, Q1 r0 → Q2 r0 → Q3 r0) : w_readWord_274 Q1 x2 x4 u → pw_readWord_274 Q2 x2 x4 u → w_readWord_274 Q3 x2 x4 u := by
  intro a b R3 c3
  obtain ⟨R2, c2, b2⟩ := b
  exact a (fun r0 r1 r2 => R2 r0 r1 r2 → R3 r0 r1 r2) (fun r0 r1 r2 a b => c3 r0 r1 r2 (cj_w_readWord_274b (fun r0 r1 r2 a b => a b) hQ a (c2 r0 r1 r2 b))) b2
theorem pw_readWord_274_i  {Q : iST → Prop} {x2 : Int} {x4 : Int} {u : iST} (I : Int → Int → iST → Prop) (s : ∀ (x2 : Int) (x4 : Int) (u : iST), I x2 x4 u → pw_readWord_274b I Q x2 x4 u) (h : I x2 x4 u) : pw_readWord_274 Q x2 x4 u := ⟨I, s, h⟩
theorem mn_w_readWord_274 {Q1 Q2 : iST → Prop}  {x2 : Int} {x4 : Int} {u : iST} (hQ : ∀ r0, Q1 r0 → Q2 r0) : pw_readWord_274 Q1 x2 x4 u → pw_readWord_274 Q2 x2 x4 u := fun ⟨R, s, h⟩ => ⟨R, fun r0 r1 r2 a => mn_w_readWord_274b (fun r0 r1 r2 a => a) hQ (s r0 r1 r2 a), h⟩
theorem un_w_readWord_274  {Q : iST → Prop} {x2 : Int} {x4 : Int} {u : iST} : pw_readWord_274 Q x2 x4 u → pw_readWord_274b (fun x2 x4 u => pw_readWord_274 Q x2 x4 u) Q x2 x4 u := fun ⟨R, s, h⟩ => mn_w_readWord_274b (fun r0 r1 r2 a => ⟨R, s, a⟩) (fun _ h => h) (s _ _ _ h)
theorem fo_w_readWord_274  {Q : iST → Prop} {x2 : Int} {x4 : Int} {u : iST} : pw_readWord_274b (fun x2 x4 u => pw_readWord_274 Q x2 x4 u) Q x2 x4 u → pw_readWord_274 Q x2 x4 u := fun h => ⟨fun x2 x4 u => pw_readWord_274b (fun x2 x4 u => pw_readWord_274 Q x2 x4 u) Q x2 x4 u, fun r0 r1 r2 a => mn_w_readWord_274b (fun r0 r1 r2 a => un_w_readWord_274 a) (fun _ h => h) a, h⟩
theorem wp_w_readWord_274 {Q1 Q2 : iST → Prop}  {x2 : Int} {x4 : Int} {u : iST} (hQ : ∀ r0, Q1 r0 → Q2 r0) : w_readWord_274 Q1 x2 x4 u → pw_readWord_274 Q2 x2 x4 u := fun a => a (fun x2 x4 u => pw_readWord_274 Q2 x2 x4 u) (fun x2 x4 u b => fo_w_readWord_274 (wp_w_readWord_274b (fun r0 r1 r2 a => a) hQ b))
def pw_readWord_220 (Q : iST → Prop) (x2 : Int) (u : iST) : Prop :=
  pw_bad 3 x2 (fun u => 
  Q u) u
theorem cj_w_readWord_220 {Q1 Q2 Q3 : iST → Prop}  {x2 : Int} {u : iST} (hQ : ∀ r0, Q1 r0 → Q2 r0 → Q3 r0) : w_readWord_220 Q1 x2 u → pw_readWord_220 Q2 x2 u → w_readWord_220 Q3 x2 u := (cj_w_bad (fun _ => (hQ _)))
theorem mn_w_readWord_220 {Q1 Q2 : iST → Prop}  {x2 : Int} {u : iST} (hQ : ∀ r0, Q1 r0 → Q2 r0) : pw_readWord_220 Q1 x2 u → pw_readWord_220 Q2 x2 u := (mn_w_bad (fun _ => (hQ _)))
theorem wp_w_readWord_220 {Q1 Q2 : iST → Prop}  {x2 : Int} {u : iST} (hQ : ∀ r0, Q1 r0 → Q2 r0) : w_readWord_220 Q1 x2 u → pw_readWord_220 Q2 x2 u := (wp_w_bad (fun _ => (hQ _)))
def pw_readWord_145 (Q : iST → Prop) (x2 : Int) (u : iST) : Prop :=
  pw_bad 3 x2 (fun u => 
  Q u) u
theorem cj_w_readWord_145 {Q1 Q2 Q3 : iST → Prop}  {x2 : Int} {u : iST} (hQ : ∀ r0, Q1 r0 → Q2 r0 → Q3 r0) : w_readWord_145 Q1 x2 u → pw_readWord_145 Q2 x2 u → w_readWord_145 Q3 x2 u := (cj_w_bad (fun _ => (hQ _)))
theorem mn_w_readWord_145 {Q1 Q2 : iST → Prop}  {x2 : Int} {u : iST} (hQ : ∀ r0, Q1 r0 → Q2 r0) : pw_readWord_145 Q1 x2 u → pw_readWord_145 Q2 x2 u := (mn_w_bad (fun _ => (hQ _)))
theorem wp_w_readWord_145 {Q1 Q2 : iST → Prop}  {x2 : Int} {u : iST} (hQ : ∀ r0, Q1 r0 → Q2 r0) : w_readWord_145 Q1 x2 u → pw_readWord_145 Q2 x2 u := (wp_w_bad (fun _ => (hQ _)))
def pw_readWord_27 (Q : iST → Prop) (x2 : Int) (x3 : Int) (y0 : Int) (u : iST) : Prop :=
  rd (u.1 23) (fun v4 => 
  ovp (v4 + 1) (
  sw (iI u 23 (v4 + 1)) (fun u => 
  br (x3 = 40) (
    pw_readWord_51 Q x2 x3 y0 u) (
    br (x3 ≠ 39) (
      br (x3 ≠ 41) (
        br (x3 ≠ 46) (
          pw_isAtom x3 (fun v12 u => 
          br (v12 ≠ 0) (
            pw_readWord_274 Q x2 y0 u) (
            pw_bad 1 x2 (fun u => 
            Q u) u)) u) (
          pw_isInList (fun v28 u => 
          br (v28 = 0) (
            pw_readWord_220 Q x2 u) (
            rd (u.1 30) (fun v30 => 
            ovp (v30 - 1) (
            bdp (v30 - 1) 40 (rd (u.2.1 28 (v30 - 1)) (fun v32 => 
            br (v32 ≠ 0) (
              pw_readWord_220 Q x2 u) (
              rd (u.1 32) (fun v33 => 
              rd (u.1 30) (fun v34 => 
              ovp (v34 - 1) (
              bdp (v34 - 1) 40 (rd (u.2.1 27 (v34 - 1)) (fun v36 => 
              br (v33 ≠ v36) (
                br (y0 = 0) (
                  rd (u.1 30) (fun v37 => 
                  ovp (v37 - 1) (
                  bdp (v37 - 1) 40 (sw (iA u 28 (v37 - 1) 1) (fun u => 
                  Q u))))) (
                  pw_bad 5 x2 (fun u => 
                  Q u) u)) (
                pw_readWord_220 Q x2 u))))))))))))) u)) (
        pw_isInList (fun v40 u => 
        br (v40 = 0) (
          pw_readWord_145 Q x2 u) (
          rd (u.1 30) (fun v42 => 
          ovp (v42 - 1) (
          bdp (v42 - 1) 40 (rd (u.2.1 28 (v42 - 1)) (fun v44 => 
          br (v44 ≠ 1) (
            br (y0 = 0) (
              pw_close (fun u => 
              Q u) u) (
              pw_bad 5 x2 (fun u => 
              Q u) u)) (
            pw_readWord_145 Q x2 u))))))) u)) (
      pw_readWord_51 Q x2 x3 y0 u)))))
theorem cj_w_readWord_27 {Q1 Q2 Q3 : iST → Prop}  {x2 : Int} {x3 : Int} {y0 : Int} {u : iST} (hQ : ∀ r0, Q1 r0 → Q2 r0 → Q3 r0) : w_readWord_27 Q1 x2 x3 y0 u → pw_readWord_27 Q2 x2 x3 y0 u → w_readWord_27 Q3 x2 x3 y0 u := (rd_cj fun _ => (ov_cj (sw_cj fun _ => (br_cj (cj_w_readWord_51  hQ) (br_cj (br_cj (br_cj (cj_w_isAtom (fun _ _ => (br_cj (cj_w_readWord_274  hQ) (cj_w_bad (fun _ => (hQ _)))))) (cj_w_isInList (fun _ _ => (br_cj (cj_w_readWord_220  hQ) (rd_cj fun _ => (ov_cj (bd_cj (rd_cj fun _ => (br_cj (cj_w_readWord_220  hQ) (rd_cj fun _ => (rd_cj fun _ => (ov_cj (bd_cj (rd_cj fun _ => (br_cj (br_cj (rd_cj fun _ => (ov_cj (bd_cj (sw_cj fun _ => (hQ _))))) (cj_w_bad (fun _ => (hQ _)))) (cj_w_readWord_220  hQ)))))))))))))))) (cj_w_isInList (fun _ _ => (br_cj (cj_w_readWord_145  hQ) (rd_cj fun _ => (ov_cj (bd_cj (rd_cj fun _ => (br_cj (br_cj (cj_w_close (fun _ => (hQ _))) (cj_w_bad (fun _ => (hQ _)))) (cj_w_readWord_145  hQ)))))))))) (cj_w_readWord_51  hQ))))))
theorem mn_w_readWord_27 {Q1 Q2 : iST → Prop}  {x2 : Int} {x3 : Int} {y0 : Int} {u : iST} (hQ : ∀ r0, Q1 r0 → Q2 r0) : pw_readWord_27 Q1 x2 x3 y0 u → pw_readWord_27 Q2 x2 x3 y0 u := (rd_mn fun _ => (ov_mn (sw_mn fun _ => (br_mn (mn_w_readWord_51  hQ) (br_mn (br_mn (br_mn (mn_w_isAtom (fun _ _ => (br_mn (mn_w_readWord_274  hQ) (mn_w_bad (fun _ => (hQ _)))))) (mn_w_isInList (fun _ _ => (br_mn (mn_w_readWord_220  hQ) (rd_mn fun _ => (ov_mn (bd_mn (rd_mn fun _ => (br_mn (mn_w_readWord_220  hQ) (rd_mn fun _ => (rd_mn fun _ => (ov_mn (bd_mn (rd_mn fun _ => (br_mn (br_mn (rd_mn fun _ => (ov_mn (bd_mn (sw_mn fun _ => (hQ _))))) (mn_w_bad (fun _ => (hQ _)))) (mn_w_readWord_220  hQ)))))))))))))))) (mn_w_isInList (fun _ _ => (br_mn (mn_w_readWord_145  hQ) (rd_mn fun _ => (ov_mn (bd_mn (rd_mn fun _ => (br_mn (br_mn (mn_w_close (fun _ => (hQ _))) (mn_w_bad (fun _ => (hQ _)))) (mn_w_readWord_145  hQ)))))))))) (mn_w_readWord_51  hQ))))))
theorem wp_w_readWord_27 {Q1 Q2 : iST → Prop}  {x2 : Int} {x3 : Int} {y0 : Int} {u : iST} (hQ : ∀ r0, Q1 r0 → Q2 r0) : w_readWord_27 Q1 x2 x3 y0 u → pw_readWord_27 Q2 x2 x3 y0 u := (rd_wp fun _ => (ov_wp (sw_wp fun _ => (br_wp (wp_w_readWord_51  hQ) (br_wp (br_wp (br_wp (wp_w_isAtom (fun _ _ => (br_wp (wp_w_readWord_274  hQ) (wp_w_bad (fun _ => (hQ _)))))) (wp_w_isInList (fun _ _ => (br_wp (wp_w_readWord_220  hQ) (rd_wp fun _ => (ov_wp (bd_wp (rd_wp fun _ => (br_wp (wp_w_readWord_220  hQ) (rd_wp fun _ => (rd_wp fun _ => (ov_wp (bd_wp (rd_wp fun _ => (br_wp (br_wp (rd_wp fun _ => (ov_wp (bd_wp (sw_wp fun _ => (hQ _))))) (wp_w_bad (fun _ => (hQ _)))) (wp_w_readWord_220  hQ)))))))))))))))) (wp_w_isInList (fun _ _ => (br_wp (wp_w_readWord_145  hQ) (rd_wp fun _ => (ov_wp (bd_wp (rd_wp fun _ => (br_wp (br_wp (wp_w_close (fun _ => (hQ _))) (wp_w_bad (fun _ => (hQ _)))) (wp_w_readWord_145  hQ)))))))))) (wp_w_readWord_51  hQ))))))
def pw_readWord (a0 : Int) (Q : iST → Prop) (u : iST) : Prop :=
  rd (u.1 23) (fun v1 => 
  rd (u.1 23) (fun v2 => 
  bdp v2 3000 (rd (u.2.1 13 v2) (fun v3 => 
  br (a0 ≤ 1000) (
    pw_readWord_27 Q v1 v3 0 u) (
    pw_readWord_27 Q v1 v3 1 u)))))
theorem cj_w_readWord {Q1 Q2 Q3 : iST → Prop}  {a0 : Int} {u : iST} (hQ : ∀ r0, Q1 r0 → Q2 r0 → Q3 r0) : w_readWord a0 Q1 u → pw_readWord a0 Q2 u → w_readWord a0 Q3 u := (rd_cj fun _ => (rd_cj fun _ => (bd_cj (rd_cj fun _ => (br_cj (cj_w_readWord_27  hQ) (cj_w_readWord_27  hQ))))))
theorem mn_w_readWord {Q1 Q2 : iST → Prop}  {a0 : Int} {u : iST} (hQ : ∀ r0, Q1 r0 → Q2 r0) : pw_readWord a0 Q1 u → pw_readWord a0 Q2 u := (rd_mn fun _ => (rd_mn fun _ => (bd_mn (rd_mn fun _ => (br_mn (mn_w_readWord_27  hQ) (mn_w_readWord_27  hQ))))))
theorem wp_w_readWord {Q1 Q2 : iST → Prop}  {a0 : Int} {u : iST} (hQ : ∀ r0, Q1 r0 → Q2 r0) : w_readWord a0 Q1 u → pw_readWord a0 Q2 u := (rd_wp fun _ => (rd_wp fun _ => (bd_wp (rd_wp fun _ => (br_wp (wp_w_readWord_27  hQ) (wp_w_readWord_27  hQ))))))
def pw_reads_92 (Q : Int → iST → Prop) (u : iST) : Prop :=
  sw (iI u 14 0) (fun u => 
  rd (u.1 24) (fun v4 => 
  br (v4 ≠ 0) (
    ztp 0 (Q 0 u)) (
    ztp 1 (Q 1 u))))
theorem cj_w_reads_92 {Q1 Q2 Q3 : Int → iST → Prop}  {u : iST} (hQ : ∀ r0 r1, Q1 r0 r1 → Q2 r0 r1 → Q3 r0 r1) : w_reads_92 Q1 u → pw_reads_92 Q2 u → w_reads_92 Q3 u := (sw_cj fun _ => (rd_cj fun _ => (br_cj (zt_cj (hQ _ _)) (zt_cj (hQ _ _)))))
theorem mn_w_reads_92 {Q1 Q2 : Int → iST → Prop}  {u : iST} (hQ : ∀ r0 r1, Q1 r0 r1 → Q2 r0 r1) : pw_reads_92 Q1 u → pw_reads_92 Q2 u := (sw_mn fun _ => (rd_mn fun _ => (br_mn (zt_mn (hQ _ _)) (zt_mn (hQ _ _)))))
theorem wp_w_reads_92 {Q1 Q2 : Int → iST → Prop}  {u : iST} (hQ : ∀ r0 r1, Q1 r0 r1 → Q2 r0 r1) : w_reads_92 Q1 u → pw_reads_92 Q2 u := (sw_wp fun _ => (rd_wp fun _ => (br_wp (zt_wp (hQ _ _)) (zt_wp (hQ _ _)))))
def pw_reads_69 (Q : Int → iST → Prop) (u : iST) : Prop :=
  rd (u.1 24) (fun v3 => 
  br (v3 ≠ 0) (
    pw_reads_92 Q u) (
    rz (u.1 34) (fun v5 => 
    br (v5 ≠ 0) (
      pw_reads_92 Q u) (
      rd (u.1 14) (fun v6 => 
      pw_bad 3 v6 (fun u => 
      pw_reads_92 Q u) u)))))
theorem cj_w_reads_69 {Q1 Q2 Q3 : Int → iST → Prop}  {u : iST} (hQ : ∀ r0 r1, Q1 r0 r1 → Q2 r0 r1 → Q3 r0 r1) : w_reads_69 Q1 u → pw_reads_69 Q2 u → w_reads_69 Q3 u := (rd_cj fun _ => (br_cj (cj_w_reads_92  hQ) (rz_cj fun _ => (br_cj (cj_w_reads_92  hQ) (rd_cj fun _ => (cj_w_bad (fun _ => (cj_w_reads_92  hQ))))))))
theorem mn_w_reads_69 {Q1 Q2 : Int → iST → Prop}  {u : iST} (hQ : ∀ r0 r1, Q1 r0 r1 → Q2 r0 r1) : pw_reads_69 Q1 u → pw_reads_69 Q2 u := (rd_mn fun _ => (br_mn (mn_w_reads_92  hQ) (rz_mn fun _ => (br_mn (mn_w_reads_92  hQ) (rd_mn fun _ => (mn_w_bad (fun _ => (mn_w_reads_92  hQ))))))))
theorem wp_w_reads_69 {Q1 Q2 : Int → iST → Prop}  {u : iST} (hQ : ∀ r0 r1, Q1 r0 r1 → Q2 r0 r1) : w_reads_69 Q1 u → pw_reads_69 Q2 u := (rd_wp fun _ => (br_wp (wp_w_reads_92  hQ) (rz_wp fun _ => (br_wp (wp_w_reads_92  hQ) (rd_wp fun _ => (wp_w_bad (fun _ => (wp_w_reads_92  hQ))))))))
def pw_reads_36b (R36 : Int → iST → Prop) (Q : Int → iST → Prop) (x1 : Int) (u : iST) : Prop :=
  rd (u.1 24) (fun v2 => 
  br (v2 ≠ 0) (
    pw_reads_69 Q u) (
    rd (u.1 23) (fun v8 => 
    rd (u.1 14) (fun v9 => 
    br (v9 ≤ v8) (
      pw_reads_69 Q u) (
      ovp (x1 + 1) (
      pw_readWord (x1 + 1) (fun u => 
      pw_skip (fun u => 
      R36 (x1 + 1) u) u) u))))))
theorem cj_w_reads_36b {Q1 Q2 Q3 : Int → iST → Prop} {R361 R362 R363 : Int → iST → Prop} {x1 : Int} {u : iST} (hR36 : ∀ r0 r1, R361 r0 r1 → R362 r0 r1 → R363 r0 r1) (hQ : ∀ r0 r1, Q1 r0 r1 → Q2 r0 r1 → Q3 r0 r1) : w_reads_36b R361 Q1 x1 u → pw_reads_36b R362 Q2 x1 u → w_reads_36b R363 Q3 x1 u := (rd_cj fun _ => (br_cj (cj_w_reads_69  hQ) (rd_cj fun _ => (rd_cj fun _ => (br_cj (cj_w_reads_69  hQ) (ov_cj (cj_w_readWord (fun _ => (cj_w_skip (fun _ => (hR36 _ _)))))))))))
theorem mn_w_reads_36b {Q1 Q2 : Int → iST → Prop} {R361 R362 : Int → iST → Prop} {x1 : Int} {u : iST} (hR36 : ∀ r0 r1, R361 r0 r1 → R362 r0 r1) (hQ : ∀ r0 r1, Q1 r0 r1 → Q2 r0 r1) : pw_reads_36b R361 Q1 x1 u → pw_reads_36b R362 Q2 x1 u := (rd_mn fun _ => (br_mn (mn_w_reads_69  hQ) (rd_mn fun _ => (rd_mn fun _ => (br_mn (mn_w_reads_69  hQ) (ov_mn (mn_w_readWord (fun _ => (mn_w_skip (fun _ => (hR36 _ _)))))))))))
theorem wp_w_reads_36b {Q1 Q2 : Int → iST → Prop} {R361 R362 : Int → iST → Prop} {x1 : Int} {u : iST} (hR36 : ∀ r0 r1, R361 r0 r1 → R362 r0 r1) (hQ : ∀ r0 r1, Q1 r0 r1 → Q2 r0 r1) : w_reads_36b R361 Q1 x1 u → pw_reads_36b R362 Q2 x1 u := (rd_wp fun _ => (br_wp (wp_w_reads_69  hQ) (rd_wp fun _ => (rd_wp fun _ => (br_wp (wp_w_reads_69  hQ) (ov_wp (wp_w_readWord (fun _ => (wp_w_skip (fun _ => (hR36 _ _)))))))))))
def pw_reads_36 (Q : Int → iST → Prop) (x1 : Int) (u : iST) : Prop := ∃ R36 : Int → iST → Prop, (∀ (x1 : Int) (u : iST), R36 x1 u → pw_reads_36b R36 Q x1 u) ∧ R36 x1 u
theorem cj_w_reads_36 {Q1 Q2 Q3 : Int → iST → Prop}  {x1 : Int} {u : iST} (hQ : ∀ r0 r1, Q1 r0 r1 → Q2 r0 r1 → Q3 r0 r1) : w_reads_36 Q1 x1 u → pw_reads_36 Q2 x1 u → w_reads_36 Q3 x1 u := by
  intro a b R3 c3
  obtain ⟨R2, c2, b2⟩ := b
  exact a (fun r0 r1 => R2 r0 r1 → R3 r0 r1) (fun r0 r1 a b => c3 r0 r1 (cj_w_reads_36b (fun r0 r1 a b => a b) hQ a (c2 r0 r1 b))) b2
theorem pw_reads_36_i  {Q : Int → iST → Prop} {x1 : Int} {u : iST} (I : Int → iST → Prop) (s : ∀ (x1 : Int) (u : iST), I x1 u → pw_reads_36b I Q x1 u) (h : I x1 u) : pw_reads_36 Q x1 u := ⟨I, s, h⟩
theorem mn_w_reads_36 {Q1 Q2 : Int → iST → Prop}  {x1 : Int} {u : iST} (hQ : ∀ r0 r1, Q1 r0 r1 → Q2 r0 r1) : pw_reads_36 Q1 x1 u → pw_reads_36 Q2 x1 u := fun ⟨R, s, h⟩ => ⟨R, fun r0 r1 a => mn_w_reads_36b (fun r0 r1 a => a) hQ (s r0 r1 a), h⟩
theorem un_w_reads_36  {Q : Int → iST → Prop} {x1 : Int} {u : iST} : pw_reads_36 Q x1 u → pw_reads_36b (fun x1 u => pw_reads_36 Q x1 u) Q x1 u := fun ⟨R, s, h⟩ => mn_w_reads_36b (fun r0 r1 a => ⟨R, s, a⟩) (fun _ _ h => h) (s _ _ h)
theorem fo_w_reads_36  {Q : Int → iST → Prop} {x1 : Int} {u : iST} : pw_reads_36b (fun x1 u => pw_reads_36 Q x1 u) Q x1 u → pw_reads_36 Q x1 u := fun h => ⟨fun x1 u => pw_reads_36b (fun x1 u => pw_reads_36 Q x1 u) Q x1 u, fun r0 r1 a => mn_w_reads_36b (fun r0 r1 a => un_w_reads_36 a) (fun _ _ h => h) a, h⟩
theorem wp_w_reads_36 {Q1 Q2 : Int → iST → Prop}  {x1 : Int} {u : iST} (hQ : ∀ r0 r1, Q1 r0 r1 → Q2 r0 r1) : w_reads_36 Q1 x1 u → pw_reads_36 Q2 x1 u := fun a => a (fun x1 u => pw_reads_36 Q2 x1 u) (fun x1 u b => fo_w_reads_36 (wp_w_reads_36b (fun r0 r1 a => a) hQ b))
def pw_reads (Q : Int → iST → Prop) (u : iST) : Prop :=
  sw (iI u 23 0) (fun u => 
  sw (iI u 30 0) (fun u => 
  sw (iI u 32 0) (fun u => 
  ztp 0 (sw (iI u 34 0) (fun u => 
  sw (iI u 24 0) (fun u => 
  sw (iI u 25 (-1)) (fun u => 
  pw_skip (fun u => 
  pw_reads_36 Q 0 u) u)))))))
theorem cj_w_reads {Q1 Q2 Q3 : Int → iST → Prop}  {u : iST} (hQ : ∀ r0 r1, Q1 r0 r1 → Q2 r0 r1 → Q3 r0 r1) : w_reads Q1 u → pw_reads Q2 u → w_reads Q3 u := (sw_cj fun _ => (sw_cj fun _ => (sw_cj fun _ => (zt_cj (sw_cj fun _ => (sw_cj fun _ => (sw_cj fun _ => (cj_w_skip (fun _ => (cj_w_reads_36  hQ))))))))))
theorem mn_w_reads {Q1 Q2 : Int → iST → Prop}  {u : iST} (hQ : ∀ r0 r1, Q1 r0 r1 → Q2 r0 r1) : pw_reads Q1 u → pw_reads Q2 u := (sw_mn fun _ => (sw_mn fun _ => (sw_mn fun _ => (zt_mn (sw_mn fun _ => (sw_mn fun _ => (sw_mn fun _ => (mn_w_skip (fun _ => (mn_w_reads_36  hQ))))))))))
theorem wp_w_reads {Q1 Q2 : Int → iST → Prop}  {u : iST} (hQ : ∀ r0 r1, Q1 r0 r1 → Q2 r0 r1) : w_reads Q1 u → pw_reads Q2 u := (sw_wp fun _ => (sw_wp fun _ => (sw_wp fun _ => (zt_wp (sw_wp fun _ => (sw_wp fun _ => (sw_wp fun _ => (wp_w_skip (fun _ => (wp_w_reads_36  hQ))))))))))
def pw_tellLetter (a0 : Int) (Q : iST → Prop) (u : iST) : Prop :=
  rz (u.1 64) (fun v1 => 
  br (v1 = 0) (
    rd (u.1 16) (fun v2 => 
    br (2000 ≤ v2) (
      Q u) (
      rd (u.1 16) (fun v3 => 
      bdp v3 2000 (sw (iA u 15 v3 a0) (fun u => 
      rd (u.1 16) (fun v4 => 
      ovp (v4 + 1) (
      sw (iI u 16 (v4 + 1)) (fun u => 
      Q u))))))))) (
    rd (u.1 22) (fun v6 => 
    br (200 ≤ v6) (
      Q u) (
      rd (u.1 22) (fun v7 => 
      bdp v7 200 (sw (iA u 21 v7 a0) (fun u => 
      rd (u.1 22) (fun v8 => 
      ovp (v8 + 1) (
      sw (iI u 22 (v8 + 1)) (fun u => 
      Q u))))))))))
theorem cj_w_tellLetter {Q1 Q2 Q3 : iST → Prop}  {a0 : Int} {u : iST} (hQ : ∀ r0, Q1 r0 → Q2 r0 → Q3 r0) : w_tellLetter a0 Q1 u → pw_tellLetter a0 Q2 u → w_tellLetter a0 Q3 u := (rz_cj fun _ => (br_cj (rd_cj fun _ => (br_cj (hQ _) (rd_cj fun _ => (bd_cj (sw_cj fun _ => (rd_cj fun _ => (ov_cj (sw_cj fun _ => (hQ _))))))))) (rd_cj fun _ => (br_cj (hQ _) (rd_cj fun _ => (bd_cj (sw_cj fun _ => (rd_cj fun _ => (ov_cj (sw_cj fun _ => (hQ _)))))))))))
theorem mn_w_tellLetter {Q1 Q2 : iST → Prop}  {a0 : Int} {u : iST} (hQ : ∀ r0, Q1 r0 → Q2 r0) : pw_tellLetter a0 Q1 u → pw_tellLetter a0 Q2 u := (rz_mn fun _ => (br_mn (rd_mn fun _ => (br_mn (hQ _) (rd_mn fun _ => (bd_mn (sw_mn fun _ => (rd_mn fun _ => (ov_mn (sw_mn fun _ => (hQ _))))))))) (rd_mn fun _ => (br_mn (hQ _) (rd_mn fun _ => (bd_mn (sw_mn fun _ => (rd_mn fun _ => (ov_mn (sw_mn fun _ => (hQ _)))))))))))
theorem wp_w_tellLetter {Q1 Q2 : iST → Prop}  {a0 : Int} {u : iST} (hQ : ∀ r0, Q1 r0 → Q2 r0) : w_tellLetter a0 Q1 u → pw_tellLetter a0 Q2 u := (rz_wp fun _ => (br_wp (rd_wp fun _ => (br_wp (hQ _) (rd_wp fun _ => (bd_wp (sw_wp fun _ => (rd_wp fun _ => (ov_wp (sw_wp fun _ => (hQ _))))))))) (rd_wp fun _ => (br_wp (hQ _) (rd_wp fun _ => (bd_wp (sw_wp fun _ => (rd_wp fun _ => (ov_wp (sw_wp fun _ => (hQ _)))))))))))
def pw_isFull (Q : Int → iST → Prop) (u : iST) : Prop :=
  rz (u.1 64) (fun v1 => 
  br (v1 = 0) (
    rd (u.1 16) (fun v2 => 
    br (v2 ≠ 2000) (
      ztp 0 (Q 0 u)) (
      ztp 1 (Q 1 u)))) (
    rd (u.1 22) (fun v3 => 
    br (v3 ≠ 200) (
      ztp 0 (Q 0 u)) (
      ztp 1 (Q 1 u)))))
theorem cj_w_isFull {Q1 Q2 Q3 : Int → iST → Prop}  {u : iST} (hQ : ∀ r0 r1, Q1 r0 r1 → Q2 r0 r1 → Q3 r0 r1) : w_isFull Q1 u → pw_isFull Q2 u → w_isFull Q3 u := (rz_cj fun _ => (br_cj (rd_cj fun _ => (br_cj (zt_cj (hQ _ _)) (zt_cj (hQ _ _)))) (rd_cj fun _ => (br_cj (zt_cj (hQ _ _)) (zt_cj (hQ _ _))))))
theorem mn_w_isFull {Q1 Q2 : Int → iST → Prop}  {u : iST} (hQ : ∀ r0 r1, Q1 r0 r1 → Q2 r0 r1) : pw_isFull Q1 u → pw_isFull Q2 u := (rz_mn fun _ => (br_mn (rd_mn fun _ => (br_mn (zt_mn (hQ _ _)) (zt_mn (hQ _ _)))) (rd_mn fun _ => (br_mn (zt_mn (hQ _ _)) (zt_mn (hQ _ _))))))
theorem wp_w_isFull {Q1 Q2 : Int → iST → Prop}  {u : iST} (hQ : ∀ r0 r1, Q1 r0 r1 → Q2 r0 r1) : w_isFull Q1 u → pw_isFull Q2 u := (rz_wp fun _ => (br_wp (rd_wp fun _ => (br_wp (zt_wp (hQ _ _)) (zt_wp (hQ _ _)))) (rd_wp fun _ => (br_wp (zt_wp (hQ _ _)) (zt_wp (hQ _ _))))))
def pw_tellAtom_77b (R77 : Int → Int → iST → Prop) (Q : iST → Prop) (x1 : Int) (x2 : Int) (u : iST) : Prop :=
  br (x2 ≤ 0) (
    Q u) (
    pw_value x1 (fun v4 u => 
    (0 : Int) < x2 ∧ (
    (0 : Int) < 10 ∧ (
    rd (wl2i (Int.tmod (Int.tdiv v4 x2) 10)) (fun v7 => 
    ovp (48 + v7) (
    pw_tellLetter (48 + v7) (fun u => 
    (0 : Int) < 10 ∧ (
    R77 x1 (Int.tdiv x2 10) u)) u))))) u)
theorem cj_w_tellAtom_77b {Q1 Q2 Q3 : iST → Prop} {R771 R772 R773 : Int → Int → iST → Prop} {x1 : Int} {x2 : Int} {u : iST} (hR77 : ∀ r0 r1 r2, R771 r0 r1 r2 → R772 r0 r1 r2 → R773 r0 r1 r2) (hQ : ∀ r0, Q1 r0 → Q2 r0 → Q3 r0) : w_tellAtom_77b R771 Q1 x1 x2 u → pw_tellAtom_77b R772 Q2 x1 x2 u → w_tellAtom_77b R773 Q3 x1 x2 u := (br_cj (hQ _) (cj_w_value (fun _ _ => (an_cj (an_cj (rd_cj fun _ => (ov_cj (cj_w_tellLetter (fun _ => (an_cj (hR77 _ _ _)))))))))))
theorem mn_w_tellAtom_77b {Q1 Q2 : iST → Prop} {R771 R772 : Int → Int → iST → Prop} {x1 : Int} {x2 : Int} {u : iST} (hR77 : ∀ r0 r1 r2, R771 r0 r1 r2 → R772 r0 r1 r2) (hQ : ∀ r0, Q1 r0 → Q2 r0) : pw_tellAtom_77b R771 Q1 x1 x2 u → pw_tellAtom_77b R772 Q2 x1 x2 u := (br_mn (hQ _) (mn_w_value (fun _ _ => (an_mn (an_mn (rd_mn fun _ => (ov_mn (mn_w_tellLetter (fun _ => (an_mn (hR77 _ _ _)))))))))))
theorem wp_w_tellAtom_77b {Q1 Q2 : iST → Prop} {R771 R772 : Int → Int → iST → Prop} {x1 : Int} {x2 : Int} {u : iST} (hR77 : ∀ r0 r1 r2, R771 r0 r1 r2 → R772 r0 r1 r2) (hQ : ∀ r0, Q1 r0 → Q2 r0) : w_tellAtom_77b R771 Q1 x1 x2 u → pw_tellAtom_77b R772 Q2 x1 x2 u := (br_wp (hQ _) (wp_w_value (fun _ _ => (an_wp (an_wp (rd_wp fun _ => (ov_wp (wp_w_tellLetter (fun _ => (an_wp (hR77 _ _ _)))))))))))
def pw_tellAtom_77 (Q : iST → Prop) (x1 : Int) (x2 : Int) (u : iST) : Prop := ∃ R77 : Int → Int → iST → Prop, (∀ (x1 : Int) (x2 : Int) (u : iST), R77 x1 x2 u → pw_tellAtom_77b R77 Q x1 x2 u) ∧ R77 x1 x2 u
theorem cj_w_tellAtom_77 {Q1 Q2 Q3 : iST → Prop}  {x1 : Int} {x2 : Int} {u : iST} (hQ : ∀ r0, Q1 r0 → Q2 r0 → Q3 r0) : w_tellAtom_77 Q1 x1 x2 u → pw_tellAtom_77 Q2 x1 x2 u → w_tellAtom_77 Q3 x1 x2 u := by
  intro a b R3 c3
  obtain ⟨R2, c2, b2⟩ := b
  exact a (fun r0 r1 r2 => R2 r0 r1 r2 → R3 r0 r1 r2) (fun r0 r1 r2 a b => c3 r0 r1 r2 (cj_w_tellAtom_77b (fun r0 r1 r2 a b => a b) hQ a (c2 r0 r1 r2 b))) b2
theorem pw_tellAtom_77_i  {Q : iST → Prop} {x1 : Int} {x2 : Int} {u : iST} (I : Int → Int → iST → Prop) (s : ∀ (x1 : Int) (x2 : Int) (u : iST), I x1 x2 u → pw_tellAtom_77b I Q x1 x2 u) (h : I x1 x2 u) : pw_tellAtom_77 Q x1 x2 u := ⟨I, s, h⟩
theorem mn_w_tellAtom_77 {Q1 Q2 : iST → Prop}  {x1 : Int} {x2 : Int} {u : iST} (hQ : ∀ r0, Q1 r0 → Q2 r0) : pw_tellAtom_77 Q1 x1 x2 u → pw_tellAtom_77 Q2 x1 x2 u := fun ⟨R, s, h⟩ => ⟨R, fun r0 r1 r2 a => mn_w_tellAtom_77b (fun r0 r1 r2 a => a) hQ (s r0 r1 r2 a), h⟩
theorem un_w_tellAtom_77  {Q : iST → Prop} {x1 : Int} {x2 : Int} {u : iST} : pw_tellAtom_77 Q x1 x2 u → pw_tellAtom_77b (fun x1 x2 u => pw_tellAtom_77 Q x1 x2 u) Q x1 x2 u := fun ⟨R, s, h⟩ => mn_w_tellAtom_77b (fun r0 r1 r2 a => ⟨R, s, a⟩) (fun _ h => h) (s _ _ _ h)
theorem fo_w_tellAtom_77  {Q : iST → Prop} {x1 : Int} {x2 : Int} {u : iST} : pw_tellAtom_77b (fun x1 x2 u => pw_tellAtom_77 Q x1 x2 u) Q x1 x2 u → pw_tellAtom_77 Q x1 x2 u := fun h => ⟨fun x1 x2 u => pw_tellAtom_77b (fun x1 x2 u => pw_tellAtom_77 Q x1 x2 u) Q x1 x2 u, fun r0 r1 r2 a => mn_w_tellAtom_77b (fun r0 r1 r2 a => un_w_tellAtom_77 a) (fun _ h => h) a, h⟩
theorem wp_w_tellAtom_77 {Q1 Q2 : iST → Prop}  {x1 : Int} {x2 : Int} {u : iST} (hQ : ∀ r0, Q1 r0 → Q2 r0) : w_tellAtom_77 Q1 x1 x2 u → pw_tellAtom_77 Q2 x1 x2 u := fun a => a (fun x1 x2 u => pw_tellAtom_77 Q2 x1 x2 u) (fun x1 x2 u b => fo_w_tellAtom_77 (wp_w_tellAtom_77b (fun r0 r1 r2 a => a) hQ b))
def pw_tellAtom_54b (R54 : Int → Int → iST → Prop) (Q : iST → Prop) (x1 : Int) (x2 : Int) (u : iST) : Prop :=
  pw_value x1 (fun v2 u => 
  (0 : Int) < x2 ∧ (
  br ((Int.tdiv v2 x2) < 10) (
    pw_tellAtom_77 Q x1 x2 u) (
    olp (10 * x2) (
    R54 x1 (10 * x2) u)))) u
theorem cj_w_tellAtom_54b {Q1 Q2 Q3 : iST → Prop} {R541 R542 R543 : Int → Int → iST → Prop} {x1 : Int} {x2 : Int} {u : iST} (hR54 : ∀ r0 r1 r2, R541 r0 r1 r2 → R542 r0 r1 r2 → R543 r0 r1 r2) (hQ : ∀ r0, Q1 r0 → Q2 r0 → Q3 r0) : w_tellAtom_54b R541 Q1 x1 x2 u → pw_tellAtom_54b R542 Q2 x1 x2 u → w_tellAtom_54b R543 Q3 x1 x2 u := (cj_w_value (fun _ _ => (an_cj (br_cj (cj_w_tellAtom_77  hQ) (ol_cj (hR54 _ _ _))))))
theorem mn_w_tellAtom_54b {Q1 Q2 : iST → Prop} {R541 R542 : Int → Int → iST → Prop} {x1 : Int} {x2 : Int} {u : iST} (hR54 : ∀ r0 r1 r2, R541 r0 r1 r2 → R542 r0 r1 r2) (hQ : ∀ r0, Q1 r0 → Q2 r0) : pw_tellAtom_54b R541 Q1 x1 x2 u → pw_tellAtom_54b R542 Q2 x1 x2 u := (mn_w_value (fun _ _ => (an_mn (br_mn (mn_w_tellAtom_77  hQ) (ol_mn (hR54 _ _ _))))))
theorem wp_w_tellAtom_54b {Q1 Q2 : iST → Prop} {R541 R542 : Int → Int → iST → Prop} {x1 : Int} {x2 : Int} {u : iST} (hR54 : ∀ r0 r1 r2, R541 r0 r1 r2 → R542 r0 r1 r2) (hQ : ∀ r0, Q1 r0 → Q2 r0) : w_tellAtom_54b R541 Q1 x1 x2 u → pw_tellAtom_54b R542 Q2 x1 x2 u := (wp_w_value (fun _ _ => (an_wp (br_wp (wp_w_tellAtom_77  hQ) (ol_wp (hR54 _ _ _))))))
def pw_tellAtom_54 (Q : iST → Prop) (x1 : Int) (x2 : Int) (u : iST) : Prop := ∃ R54 : Int → Int → iST → Prop, (∀ (x1 : Int) (x2 : Int) (u : iST), R54 x1 x2 u → pw_tellAtom_54b R54 Q x1 x2 u) ∧ R54 x1 x2 u
theorem cj_w_tellAtom_54 {Q1 Q2 Q3 : iST → Prop}  {x1 : Int} {x2 : Int} {u : iST} (hQ : ∀ r0, Q1 r0 → Q2 r0 → Q3 r0) : w_tellAtom_54 Q1 x1 x2 u → pw_tellAtom_54 Q2 x1 x2 u → w_tellAtom_54 Q3 x1 x2 u := by
  intro a b R3 c3
  obtain ⟨R2, c2, b2⟩ := b
  exact a (fun r0 r1 r2 => R2 r0 r1 r2 → R3 r0 r1 r2) (fun r0 r1 r2 a b => c3 r0 r1 r2 (cj_w_tellAtom_54b (fun r0 r1 r2 a b => a b) hQ a (c2 r0 r1 r2 b))) b2
theorem pw_tellAtom_54_i  {Q : iST → Prop} {x1 : Int} {x2 : Int} {u : iST} (I : Int → Int → iST → Prop) (s : ∀ (x1 : Int) (x2 : Int) (u : iST), I x1 x2 u → pw_tellAtom_54b I Q x1 x2 u) (h : I x1 x2 u) : pw_tellAtom_54 Q x1 x2 u := ⟨I, s, h⟩
theorem mn_w_tellAtom_54 {Q1 Q2 : iST → Prop}  {x1 : Int} {x2 : Int} {u : iST} (hQ : ∀ r0, Q1 r0 → Q2 r0) : pw_tellAtom_54 Q1 x1 x2 u → pw_tellAtom_54 Q2 x1 x2 u := fun ⟨R, s, h⟩ => ⟨R, fun r0 r1 r2 a => mn_w_tellAtom_54b (fun r0 r1 r2 a => a) hQ (s r0 r1 r2 a), h⟩
theorem un_w_tellAtom_54  {Q : iST → Prop} {x1 : Int} {x2 : Int} {u : iST} : pw_tellAtom_54 Q x1 x2 u → pw_tellAtom_54b (fun x1 x2 u => pw_tellAtom_54 Q x1 x2 u) Q x1 x2 u := fun ⟨R, s, h⟩ => mn_w_tellAtom_54b (fun r0 r1 r2 a => ⟨R, s, a⟩) (fun _ h => h) (s _ _ _ h)
theorem fo_w_tellAtom_54  {Q : iST → Prop} {x1 : Int} {x2 : Int} {u : iST} : pw_tellAtom_54b (fun x1 x2 u => pw_tellAtom_54 Q x1 x2 u) Q x1 x2 u → pw_tellAtom_54 Q x1 x2 u := fun h => ⟨fun x1 x2 u => pw_tellAtom_54b (fun x1 x2 u => pw_tellAtom_54 Q x1 x2 u) Q x1 x2 u, fun r0 r1 r2 a => mn_w_tellAtom_54b (fun r0 r1 r2 a => un_w_tellAtom_54 a) (fun _ h => h) a, h⟩
theorem wp_w_tellAtom_54 {Q1 Q2 : iST → Prop}  {x1 : Int} {x2 : Int} {u : iST} (hQ : ∀ r0, Q1 r0 → Q2 r0) : w_tellAtom_54 Q1 x1 x2 u → pw_tellAtom_54 Q2 x1 x2 u := fun a => a (fun x1 x2 u => pw_tellAtom_54 Q2 x1 x2 u) (fun x1 x2 u b => fo_w_tellAtom_54 (wp_w_tellAtom_54b (fun r0 r1 r2 a => a) hQ b))
def pw_tellAtom_10b (R10 : Int → Int → iST → Prop) (Q : iST → Prop) (x1 : Int) (x2 : Int) (u : iST) : Prop :=
  bdp x1 452000 (rd (u.2.1 1 x1) (fun v12 => 
  bdp v12 21000 (rd (u.2.1 10 v12) (fun v13 => 
  br (v13 ≤ x2) (
    Q u) (
    bdp x1 452000 (rd (u.2.1 1 x1) (fun v14 => 
    ovp (12 * v14) (
    ovp ((12 * v14) + x2) (
    bdp ((12 * v14) + x2) 252000 (rd (u.2.1 9 ((12 * v14) + x2)) (fun v17 => 
    pw_tellLetter v17 (fun u => 
    ovp (x2 + 1) (
    R10 x1 (x2 + 1) u)) u)))))))))))
theorem cj_w_tellAtom_10b {Q1 Q2 Q3 : iST → Prop} {R101 R102 R103 : Int → Int → iST → Prop} {x1 : Int} {x2 : Int} {u : iST} (hR10 : ∀ r0 r1 r2, R101 r0 r1 r2 → R102 r0 r1 r2 → R103 r0 r1 r2) (hQ : ∀ r0, Q1 r0 → Q2 r0 → Q3 r0) : w_tellAtom_10b R101 Q1 x1 x2 u → pw_tellAtom_10b R102 Q2 x1 x2 u → w_tellAtom_10b R103 Q3 x1 x2 u := (bd_cj (rd_cj fun _ => (bd_cj (rd_cj fun _ => (br_cj (hQ _) (bd_cj (rd_cj fun _ => (ov_cj (ov_cj (bd_cj (rd_cj fun _ => (cj_w_tellLetter (fun _ => (ov_cj (hR10 _ _ _)))))))))))))))
theorem mn_w_tellAtom_10b {Q1 Q2 : iST → Prop} {R101 R102 : Int → Int → iST → Prop} {x1 : Int} {x2 : Int} {u : iST} (hR10 : ∀ r0 r1 r2, R101 r0 r1 r2 → R102 r0 r1 r2) (hQ : ∀ r0, Q1 r0 → Q2 r0) : pw_tellAtom_10b R101 Q1 x1 x2 u → pw_tellAtom_10b R102 Q2 x1 x2 u := (bd_mn (rd_mn fun _ => (bd_mn (rd_mn fun _ => (br_mn (hQ _) (bd_mn (rd_mn fun _ => (ov_mn (ov_mn (bd_mn (rd_mn fun _ => (mn_w_tellLetter (fun _ => (ov_mn (hR10 _ _ _)))))))))))))))
theorem wp_w_tellAtom_10b {Q1 Q2 : iST → Prop} {R101 R102 : Int → Int → iST → Prop} {x1 : Int} {x2 : Int} {u : iST} (hR10 : ∀ r0 r1 r2, R101 r0 r1 r2 → R102 r0 r1 r2) (hQ : ∀ r0, Q1 r0 → Q2 r0) : w_tellAtom_10b R101 Q1 x1 x2 u → pw_tellAtom_10b R102 Q2 x1 x2 u := (bd_wp (rd_wp fun _ => (bd_wp (rd_wp fun _ => (br_wp (hQ _) (bd_wp (rd_wp fun _ => (ov_wp (ov_wp (bd_wp (rd_wp fun _ => (wp_w_tellLetter (fun _ => (ov_wp (hR10 _ _ _)))))))))))))))
def pw_tellAtom_10 (Q : iST → Prop) (x1 : Int) (x2 : Int) (u : iST) : Prop := ∃ R10 : Int → Int → iST → Prop, (∀ (x1 : Int) (x2 : Int) (u : iST), R10 x1 x2 u → pw_tellAtom_10b R10 Q x1 x2 u) ∧ R10 x1 x2 u
theorem cj_w_tellAtom_10 {Q1 Q2 Q3 : iST → Prop}  {x1 : Int} {x2 : Int} {u : iST} (hQ : ∀ r0, Q1 r0 → Q2 r0 → Q3 r0) : w_tellAtom_10 Q1 x1 x2 u → pw_tellAtom_10 Q2 x1 x2 u → w_tellAtom_10 Q3 x1 x2 u := by
  intro a b R3 c3
  obtain ⟨R2, c2, b2⟩ := b
  exact a (fun r0 r1 r2 => R2 r0 r1 r2 → R3 r0 r1 r2) (fun r0 r1 r2 a b => c3 r0 r1 r2 (cj_w_tellAtom_10b (fun r0 r1 r2 a b => a b) hQ a (c2 r0 r1 r2 b))) b2
theorem pw_tellAtom_10_i  {Q : iST → Prop} {x1 : Int} {x2 : Int} {u : iST} (I : Int → Int → iST → Prop) (s : ∀ (x1 : Int) (x2 : Int) (u : iST), I x1 x2 u → pw_tellAtom_10b I Q x1 x2 u) (h : I x1 x2 u) : pw_tellAtom_10 Q x1 x2 u := ⟨I, s, h⟩
theorem mn_w_tellAtom_10 {Q1 Q2 : iST → Prop}  {x1 : Int} {x2 : Int} {u : iST} (hQ : ∀ r0, Q1 r0 → Q2 r0) : pw_tellAtom_10 Q1 x1 x2 u → pw_tellAtom_10 Q2 x1 x2 u := fun ⟨R, s, h⟩ => ⟨R, fun r0 r1 r2 a => mn_w_tellAtom_10b (fun r0 r1 r2 a => a) hQ (s r0 r1 r2 a), h⟩
theorem un_w_tellAtom_10  {Q : iST → Prop} {x1 : Int} {x2 : Int} {u : iST} : pw_tellAtom_10 Q x1 x2 u → pw_tellAtom_10b (fun x1 x2 u => pw_tellAtom_10 Q x1 x2 u) Q x1 x2 u := fun ⟨R, s, h⟩ => mn_w_tellAtom_10b (fun r0 r1 r2 a => ⟨R, s, a⟩) (fun _ h => h) (s _ _ _ h)
theorem fo_w_tellAtom_10  {Q : iST → Prop} {x1 : Int} {x2 : Int} {u : iST} : pw_tellAtom_10b (fun x1 x2 u => pw_tellAtom_10 Q x1 x2 u) Q x1 x2 u → pw_tellAtom_10 Q x1 x2 u := fun h => ⟨fun x1 x2 u => pw_tellAtom_10b (fun x1 x2 u => pw_tellAtom_10 Q x1 x2 u) Q x1 x2 u, fun r0 r1 r2 a => mn_w_tellAtom_10b (fun r0 r1 r2 a => un_w_tellAtom_10 a) (fun _ h => h) a, h⟩
theorem wp_w_tellAtom_10 {Q1 Q2 : iST → Prop}  {x1 : Int} {x2 : Int} {u : iST} (hQ : ∀ r0, Q1 r0 → Q2 r0) : w_tellAtom_10 Q1 x1 x2 u → pw_tellAtom_10 Q2 x1 x2 u := fun a => a (fun x1 x2 u => pw_tellAtom_10 Q2 x1 x2 u) (fun x1 x2 u b => fo_w_tellAtom_10 (wp_w_tellAtom_10b (fun r0 r1 r2 a => a) hQ b))
def pw_tellAtom (a0 : Int) (Q : iST → Prop) (u : iST) : Prop :=
  pw_isSymbol a0 (fun v1 u => 
  br (v1 = 0) (
    pw_tellAtom_54 Q a0 1 u) (
    pw_tellAtom_10 Q a0 0 u)) u
theorem cj_w_tellAtom {Q1 Q2 Q3 : iST → Prop}  {a0 : Int} {u : iST} (hQ : ∀ r0, Q1 r0 → Q2 r0 → Q3 r0) : w_tellAtom a0 Q1 u → pw_tellAtom a0 Q2 u → w_tellAtom a0 Q3 u := (cj_w_isSymbol (fun _ _ => (br_cj (cj_w_tellAtom_54  hQ) (cj_w_tellAtom_10  hQ))))
theorem mn_w_tellAtom {Q1 Q2 : iST → Prop}  {a0 : Int} {u : iST} (hQ : ∀ r0, Q1 r0 → Q2 r0) : pw_tellAtom a0 Q1 u → pw_tellAtom a0 Q2 u := (mn_w_isSymbol (fun _ _ => (br_mn (mn_w_tellAtom_54  hQ) (mn_w_tellAtom_10  hQ))))
theorem wp_w_tellAtom {Q1 Q2 : iST → Prop}  {a0 : Int} {u : iST} (hQ : ∀ r0, Q1 r0 → Q2 r0) : w_tellAtom a0 Q1 u → pw_tellAtom a0 Q2 u := (wp_w_isSymbol (fun _ _ => (br_wp (wp_w_tellAtom_54  hQ) (wp_w_tellAtom_10  hQ))))
def pw_isQuoted (a0 : Int) (Q : Int → iST → Prop) (u : iST) : Prop :=
  pw_isPair a0 (fun v1 u => 
  br (v1 = 0) (
    ztp 0 (Q 0 u)) (
    bdp a0 452000 (rd (u.2.1 0 a0) (fun v2 => 
    br (v2 ≠ 2) (
      ztp 0 (Q 0 u)) (
      bdp a0 452000 (rd (u.2.1 1 a0) (fun v3 => 
      pw_isPair v3 (fun v4 u => 
      br (v4 = 0) (
        ztp 0 (Q 0 u)) (
        bdp a0 452000 (rd (u.2.1 1 a0) (fun v5 => 
        bdp v5 452000 (rd (u.2.1 1 v5) (fun v6 => 
        br (v6 ≠ 0) (
          ztp 0 (Q 0 u)) (
          ztp 1 (Q 1 u)))))))) u))))))) u
theorem cj_w_isQuoted {Q1 Q2 Q3 : Int → iST → Prop}  {a0 : Int} {u : iST} (hQ : ∀ r0 r1, Q1 r0 r1 → Q2 r0 r1 → Q3 r0 r1) : w_isQuoted a0 Q1 u → pw_isQuoted a0 Q2 u → w_isQuoted a0 Q3 u := (cj_w_isPair (fun _ _ => (br_cj (zt_cj (hQ _ _)) (bd_cj (rd_cj fun _ => (br_cj (zt_cj (hQ _ _)) (bd_cj (rd_cj fun _ => (cj_w_isPair (fun _ _ => (br_cj (zt_cj (hQ _ _)) (bd_cj (rd_cj fun _ => (bd_cj (rd_cj fun _ => (br_cj (zt_cj (hQ _ _)) (zt_cj (hQ _ _))))))))))))))))))
theorem mn_w_isQuoted {Q1 Q2 : Int → iST → Prop}  {a0 : Int} {u : iST} (hQ : ∀ r0 r1, Q1 r0 r1 → Q2 r0 r1) : pw_isQuoted a0 Q1 u → pw_isQuoted a0 Q2 u := (mn_w_isPair (fun _ _ => (br_mn (zt_mn (hQ _ _)) (bd_mn (rd_mn fun _ => (br_mn (zt_mn (hQ _ _)) (bd_mn (rd_mn fun _ => (mn_w_isPair (fun _ _ => (br_mn (zt_mn (hQ _ _)) (bd_mn (rd_mn fun _ => (bd_mn (rd_mn fun _ => (br_mn (zt_mn (hQ _ _)) (zt_mn (hQ _ _))))))))))))))))))
theorem wp_w_isQuoted {Q1 Q2 : Int → iST → Prop}  {a0 : Int} {u : iST} (hQ : ∀ r0 r1, Q1 r0 r1 → Q2 r0 r1) : w_isQuoted a0 Q1 u → pw_isQuoted a0 Q2 u := (wp_w_isPair (fun _ _ => (br_wp (zt_wp (hQ _ _)) (bd_wp (rd_wp fun _ => (br_wp (zt_wp (hQ _ _)) (bd_wp (rd_wp fun _ => (wp_w_isPair (fun _ _ => (br_wp (zt_wp (hQ _ _)) (bd_wp (rd_wp fun _ => (bd_wp (rd_wp fun _ => (br_wp (zt_wp (hQ _ _)) (zt_wp (hQ _ _))))))))))))))))))
def pw_later (a0 : Int) (Q : iST → Prop) (u : iST) : Prop :=
  rd (u.1 20) (fun v1 => 
  bdp v1 4000 (sw (iA u 19 v1 a0) (fun u => 
  rd (u.1 20) (fun v2 => 
  ovp (v2 + 1) (
  sw (iI u 20 (v2 + 1)) (fun u => 
  Q u))))))
theorem cj_w_later {Q1 Q2 Q3 : iST → Prop}  {a0 : Int} {u : iST} (hQ : ∀ r0, Q1 r0 → Q2 r0 → Q3 r0) : w_later a0 Q1 u → pw_later a0 Q2 u → w_later a0 Q3 u := (rd_cj fun _ => (bd_cj (sw_cj fun _ => (rd_cj fun _ => (ov_cj (sw_cj fun _ => (hQ _)))))))
theorem mn_w_later {Q1 Q2 : iST → Prop}  {a0 : Int} {u : iST} (hQ : ∀ r0, Q1 r0 → Q2 r0) : pw_later a0 Q1 u → pw_later a0 Q2 u := (rd_mn fun _ => (bd_mn (sw_mn fun _ => (rd_mn fun _ => (ov_mn (sw_mn fun _ => (hQ _)))))))
theorem wp_w_later {Q1 Q2 : iST → Prop}  {a0 : Int} {u : iST} (hQ : ∀ r0, Q1 r0 → Q2 r0) : w_later a0 Q1 u → pw_later a0 Q2 u := (rd_wp fun _ => (bd_wp (sw_wp fun _ => (rd_wp fun _ => (ov_wp (sw_wp fun _ => (hQ _)))))))
def pw_tellObject_12b (R12 : iST → Prop) (Q : iST → Prop) (u : iST) : Prop :=
  rd (u.1 20) (fun v3 => 
  br (v3 ≤ 0) (
    Q u) (
    pw_isFull (fun v4 u => 
    br (v4 ≠ 0) (
      Q u) (
      rd (u.1 20) (fun v5 => 
      ovp (v5 - 1) (
      sw (iI u 20 (v5 - 1)) (fun u => 
      rd (u.1 20) (fun v7 => 
      bdp v7 4000 (rd (u.2.1 19 v7) (fun v8 => 
      (0 : Int) < 2 ∧ (
      (0 : Int) < 2 ∧ (
      br ((Int.tmod v8 2) ≠ 0) (
        br ((Int.tdiv v8 2) ≠ 0) (
          pw_isPair (Int.tdiv v8 2) (fun v11 u => 
          br (v11 = 0) (
            pw_tellLetter 32 (fun u => 
            pw_tellLetter 46 (fun u => 
            pw_tellLetter 32 (fun u => 
            pw_tellAtom (Int.tdiv v8 2) (fun u => 
            pw_tellLetter 41 (fun u => 
            R12 u) u) u) u) u) u) (
            pw_tellLetter 32 (fun u => 
            bdp (Int.tdiv v8 2) 452000 (rd (u.2.1 1 (Int.tdiv v8 2)) (fun v18 => 
            ovp (2 * v18) (
            ovp ((2 * v18) + 1) (
            pw_later ((2 * v18) + 1) (fun u => 
            bdp (Int.tdiv v8 2) 452000 (rd (u.2.1 0 (Int.tdiv v8 2)) (fun v22 => 
            ovp (2 * v22) (
            pw_later (2 * v22) (fun u => 
            R12 u) u)))) u))))) u)) u) (
          pw_tellLetter 41 (fun u => 
          R12 u) u)) (
        pw_isPair (Int.tdiv v8 2) (fun v26 u => 
        br (v26 ≠ 0) (
          pw_isQuoted (Int.tdiv v8 2) (fun v27 u => 
          br (v27 = 0) (
            pw_tellLetter 40 (fun u => 
            bdp (Int.tdiv v8 2) 452000 (rd (u.2.1 1 (Int.tdiv v8 2)) (fun v29 => 
            ovp (2 * v29) (
            ovp ((2 * v29) + 1) (
            pw_later ((2 * v29) + 1) (fun u => 
            bdp (Int.tdiv v8 2) 452000 (rd (u.2.1 0 (Int.tdiv v8 2)) (fun v33 => 
            ovp (2 * v33) (
            pw_later (2 * v33) (fun u => 
            R12 u) u)))) u))))) u) (
            pw_tellLetter 39 (fun u => 
            bdp (Int.tdiv v8 2) 452000 (rd (u.2.1 1 (Int.tdiv v8 2)) (fun v37 => 
            bdp v37 452000 (rd (u.2.1 0 v37) (fun v38 => 
            ovp (2 * v38) (
            pw_later (2 * v38) (fun u => 
            R12 u) u)))))) u)) u) (
          pw_tellAtom (Int.tdiv v8 2) (fun u => 
          R12 u) u)) u))))))))))) u))
theorem cj_w_tellObject_12b {Q1 Q2 Q3 : iST → Prop} {R121 R122 R123 : iST → Prop} {u : iST} (hR12 : ∀ r0, R121 r0 → R122 r0 → R123 r0) (hQ : ∀ r0, Q1 r0 → Q2 r0 → Q3 r0) : w_tellObject_12b R121 Q1 u → pw_tellObject_12b R122 Q2 u → w_tellObject_12b R123 Q3 u := (rd_cj fun _ => (br_cj (hQ _) (cj_w_isFull (fun _ _ => (br_cj (hQ _) (rd_cj fun _ => (ov_cj (sw_cj fun _ => (rd_cj fun _ => (bd_cj (rd_cj fun _ => (an_cj (an_cj (br_cj (br_cj (cj_w_isPair (fun _ _ => (br_cj (cj_w_tellLetter (fun _ => (cj_w_tellLetter (fun _ => (cj_w_tellLetter (fun _ => (cj_w_tellAtom (fun _ => (cj_w_tellLetter (fun _ => (hR12 _))))))))))) (cj_w_tellLetter (fun _ => (bd_cj (rd_cj fun _ => (ov_cj (ov_cj (cj_w_later (fun _ => (bd_cj (rd_cj fun _ => (ov_cj (cj_w_later (fun _ => (hR12 _))))))))))))))))) (cj_w_tellLetter (fun _ => (hR12 _)))) (cj_w_isPair (fun _ _ => (br_cj (cj_w_isQuoted (fun _ _ => (br_cj (cj_w_tellLetter (fun _ => (bd_cj (rd_cj fun _ => (ov_cj (ov_cj (cj_w_later (fun _ => (bd_cj (rd_cj fun _ => (ov_cj (cj_w_later (fun _ => (hR12 _)))))))))))))) (cj_w_tellLetter (fun _ => (bd_cj (rd_cj fun _ => (bd_cj (rd_cj fun _ => (ov_cj (cj_w_later (fun _ => (hR12 _))))))))))))) (cj_w_tellAtom (fun _ => (hR12 _))))))))))))))))))))
theorem mn_w_tellObject_12b {Q1 Q2 : iST → Prop} {R121 R122 : iST → Prop} {u : iST} (hR12 : ∀ r0, R121 r0 → R122 r0) (hQ : ∀ r0, Q1 r0 → Q2 r0) : pw_tellObject_12b R121 Q1 u → pw_tellObject_12b R122 Q2 u := (rd_mn fun _ => (br_mn (hQ _) (mn_w_isFull (fun _ _ => (br_mn (hQ _) (rd_mn fun _ => (ov_mn (sw_mn fun _ => (rd_mn fun _ => (bd_mn (rd_mn fun _ => (an_mn (an_mn (br_mn (br_mn (mn_w_isPair (fun _ _ => (br_mn (mn_w_tellLetter (fun _ => (mn_w_tellLetter (fun _ => (mn_w_tellLetter (fun _ => (mn_w_tellAtom (fun _ => (mn_w_tellLetter (fun _ => (hR12 _))))))))))) (mn_w_tellLetter (fun _ => (bd_mn (rd_mn fun _ => (ov_mn (ov_mn (mn_w_later (fun _ => (bd_mn (rd_mn fun _ => (ov_mn (mn_w_later (fun _ => (hR12 _))))))))))))))))) (mn_w_tellLetter (fun _ => (hR12 _)))) (mn_w_isPair (fun _ _ => (br_mn (mn_w_isQuoted (fun _ _ => (br_mn (mn_w_tellLetter (fun _ => (bd_mn (rd_mn fun _ => (ov_mn (ov_mn (mn_w_later (fun _ => (bd_mn (rd_mn fun _ => (ov_mn (mn_w_later (fun _ => (hR12 _)))))))))))))) (mn_w_tellLetter (fun _ => (bd_mn (rd_mn fun _ => (bd_mn (rd_mn fun _ => (ov_mn (mn_w_later (fun _ => (hR12 _))))))))))))) (mn_w_tellAtom (fun _ => (hR12 _))))))))))))))))))))
theorem wp_w_tellObject_12b {Q1 Q2 : iST → Prop} {R121 R122 : iST → Prop} {u : iST} (hR12 : ∀ r0, R121 r0 → R122 r0) (hQ : ∀ r0, Q1 r0 → Q2 r0) : w_tellObject_12b R121 Q1 u → pw_tellObject_12b R122 Q2 u := (rd_wp fun _ => (br_wp (hQ _) (wp_w_isFull (fun _ _ => (br_wp (hQ _) (rd_wp fun _ => (ov_wp (sw_wp fun _ => (rd_wp fun _ => (bd_wp (rd_wp fun _ => (an_wp (an_wp (br_wp (br_wp (wp_w_isPair (fun _ _ => (br_wp (wp_w_tellLetter (fun _ => (wp_w_tellLetter (fun _ => (wp_w_tellLetter (fun _ => (wp_w_tellAtom (fun _ => (wp_w_tellLetter (fun _ => (hR12 _))))))))))) (wp_w_tellLetter (fun _ => (bd_wp (rd_wp fun _ => (ov_wp (ov_wp (wp_w_later (fun _ => (bd_wp (rd_wp fun _ => (ov_wp (wp_w_later (fun _ => (hR12 _))))))))))))))))) (wp_w_tellLetter (fun _ => (hR12 _)))) (wp_w_isPair (fun _ _ => (br_wp (wp_w_isQuoted (fun _ _ => (br_wp (wp_w_tellLetter (fun _ => (bd_wp (rd_wp fun _ => (ov_wp (ov_wp (wp_w_later (fun _ => (bd_wp (rd_wp fun _ => (ov_wp (wp_w_later (fun _ => (hR12 _)))))))))))))) (wp_w_tellLetter (fun _ => (bd_wp (rd_wp fun _ => (bd_wp (rd_wp fun _ => (ov_wp (wp_w_later (fun _ => (hR12 _))))))))))))) (wp_w_tellAtom (fun _ => (hR12 _))))))))))))))))))))
def pw_tellObject_12 (Q : iST → Prop) (u : iST) : Prop := ∃ R12 : iST → Prop, (∀ (u : iST), R12 u → pw_tellObject_12b R12 Q u) ∧ R12 u
theorem cj_w_tellObject_12 {Q1 Q2 Q3 : iST → Prop}  {u : iST} (hQ : ∀ r0, Q1 r0 → Q2 r0 → Q3 r0) : w_tellObject_12 Q1 u → pw_tellObject_12 Q2 u → w_tellObject_12 Q3 u := by
  intro a b R3 c3
  obtain ⟨R2, c2, b2⟩ := b
  exact a (fun r0 => R2 r0 → R3 r0) (fun r0 a b => c3 r0 (cj_w_tellObject_12b (fun r0 a b => a b) hQ a (c2 r0 b))) b2
theorem pw_tellObject_12_i  {Q : iST → Prop} {u : iST} (I : iST → Prop) (s : ∀ (u : iST), I u → pw_tellObject_12b I Q u) (h : I u) : pw_tellObject_12 Q u := ⟨I, s, h⟩
theorem mn_w_tellObject_12 {Q1 Q2 : iST → Prop}  {u : iST} (hQ : ∀ r0, Q1 r0 → Q2 r0) : pw_tellObject_12 Q1 u → pw_tellObject_12 Q2 u := fun ⟨R, s, h⟩ => ⟨R, fun r0 a => mn_w_tellObject_12b (fun r0 a => a) hQ (s r0 a), h⟩
theorem un_w_tellObject_12  {Q : iST → Prop} {u : iST} : pw_tellObject_12 Q u → pw_tellObject_12b (fun u => pw_tellObject_12 Q u) Q u := fun ⟨R, s, h⟩ => mn_w_tellObject_12b (fun r0 a => ⟨R, s, a⟩) (fun _ h => h) (s _ h)
theorem fo_w_tellObject_12  {Q : iST → Prop} {u : iST} : pw_tellObject_12b (fun u => pw_tellObject_12 Q u) Q u → pw_tellObject_12 Q u := fun h => ⟨fun u => pw_tellObject_12b (fun u => pw_tellObject_12 Q u) Q u, fun r0 a => mn_w_tellObject_12b (fun r0 a => un_w_tellObject_12 a) (fun _ h => h) a, h⟩
theorem wp_w_tellObject_12 {Q1 Q2 : iST → Prop}  {u : iST} (hQ : ∀ r0, Q1 r0 → Q2 r0) : w_tellObject_12 Q1 u → pw_tellObject_12 Q2 u := fun a => a (fun u => pw_tellObject_12 Q2 u) (fun u b => fo_w_tellObject_12 (wp_w_tellObject_12b (fun r0 a => a) hQ b))
def pw_tellObject (a0 : Int) (Q : iST → Prop) (u : iST) : Prop :=
  sw (iI u 20 0) (fun u => 
  ovp (2 * a0) (
  pw_later (2 * a0) (fun u => 
  pw_tellObject_12 Q u) u))
theorem cj_w_tellObject {Q1 Q2 Q3 : iST → Prop}  {a0 : Int} {u : iST} (hQ : ∀ r0, Q1 r0 → Q2 r0 → Q3 r0) : w_tellObject a0 Q1 u → pw_tellObject a0 Q2 u → w_tellObject a0 Q3 u := (sw_cj fun _ => (ov_cj (cj_w_later (fun _ => (cj_w_tellObject_12  hQ)))))
theorem mn_w_tellObject {Q1 Q2 : iST → Prop}  {a0 : Int} {u : iST} (hQ : ∀ r0, Q1 r0 → Q2 r0) : pw_tellObject a0 Q1 u → pw_tellObject a0 Q2 u := (sw_mn fun _ => (ov_mn (mn_w_later (fun _ => (mn_w_tellObject_12  hQ)))))
theorem wp_w_tellObject {Q1 Q2 : iST → Prop}  {a0 : Int} {u : iST} (hQ : ∀ r0, Q1 r0 → Q2 r0) : w_tellObject a0 Q1 u → pw_tellObject a0 Q2 u := (sw_wp fun _ => (ov_wp (wp_w_later (fun _ => (wp_w_tellObject_12  hQ)))))
def pw_isSmaller_114 (R67 : Int → Int → iST → Prop) (Q : Int → iST → Prop) (x3 : Int) (x4 : Int) (x5 : Int) (y0 : Int) (u : iST) : Prop :=
  br (x5 = y0) (
    ovp (x4 + 1) (
    R67 x3 (x4 + 1) u)) (
    br (y0 ≤ x5) (
      ztp 0 (Q 0 u)) (
      ztp 1 (Q 1 u)))
theorem cj_w_isSmaller_114 {Q1 Q2 Q3 : Int → iST → Prop} {R671 R672 R673 : Int → Int → iST → Prop} {x3 : Int} {x4 : Int} {x5 : Int} {y0 : Int} {u : iST} (hR67 : ∀ r0 r1 r2, R671 r0 r1 r2 → R672 r0 r1 r2 → R673 r0 r1 r2) (hQ : ∀ r0 r1, Q1 r0 r1 → Q2 r0 r1 → Q3 r0 r1) : w_isSmaller_114 R671 Q1 x3 x4 x5 y0 u → pw_isSmaller_114 R672 Q2 x3 x4 x5 y0 u → w_isSmaller_114 R673 Q3 x3 x4 x5 y0 u := (br_cj (ov_cj (hR67 _ _ _)) (br_cj (zt_cj (hQ _ _)) (zt_cj (hQ _ _))))
theorem mn_w_isSmaller_114 {Q1 Q2 : Int → iST → Prop} {R671 R672 : Int → Int → iST → Prop} {x3 : Int} {x4 : Int} {x5 : Int} {y0 : Int} {u : iST} (hR67 : ∀ r0 r1 r2, R671 r0 r1 r2 → R672 r0 r1 r2) (hQ : ∀ r0 r1, Q1 r0 r1 → Q2 r0 r1) : pw_isSmaller_114 R671 Q1 x3 x4 x5 y0 u → pw_isSmaller_114 R672 Q2 x3 x4 x5 y0 u := (br_mn (ov_mn (hR67 _ _ _)) (br_mn (zt_mn (hQ _ _)) (zt_mn (hQ _ _))))
theorem wp_w_isSmaller_114 {Q1 Q2 : Int → iST → Prop} {R671 R672 : Int → Int → iST → Prop} {x3 : Int} {x4 : Int} {x5 : Int} {y0 : Int} {u : iST} (hR67 : ∀ r0 r1 r2, R671 r0 r1 r2 → R672 r0 r1 r2) (hQ : ∀ r0 r1, Q1 r0 r1 → Q2 r0 r1) : w_isSmaller_114 R671 Q1 x3 x4 x5 y0 u → pw_isSmaller_114 R672 Q2 x3 x4 x5 y0 u := (br_wp (ov_wp (hR67 _ _ _)) (br_wp (zt_wp (hQ _ _)) (zt_wp (hQ _ _))))
def pw_isSmaller_95 (R67 : Int → Int → iST → Prop) (Q : Int → iST → Prop) (x3 : Int) (x4 : Int) (y0 : Int) (u : iST) : Prop :=
  br (x3 ≤ x4) (
    pw_isSmaller_114 R67 Q x3 x4 y0 (-1) u) (
    bdp x4 200 (rd (u.2.1 65 x4) (fun v6 => 
    pw_isSmaller_114 R67 Q x3 x4 y0 v6 u)))
theorem cj_w_isSmaller_95 {Q1 Q2 Q3 : Int → iST → Prop} {R671 R672 R673 : Int → Int → iST → Prop} {x3 : Int} {x4 : Int} {y0 : Int} {u : iST} (hR67 : ∀ r0 r1 r2, R671 r0 r1 r2 → R672 r0 r1 r2 → R673 r0 r1 r2) (hQ : ∀ r0 r1, Q1 r0 r1 → Q2 r0 r1 → Q3 r0 r1) : w_isSmaller_95 R671 Q1 x3 x4 y0 u → pw_isSmaller_95 R672 Q2 x3 x4 y0 u → w_isSmaller_95 R673 Q3 x3 x4 y0 u := (br_cj (cj_w_isSmaller_114 hR67 hQ) (bd_cj (rd_cj fun _ => (cj_w_isSmaller_114 hR67 hQ))))
theorem mn_w_isSmaller_95 {Q1 Q2 : Int → iST → Prop} {R671 R672 : Int → Int → iST → Prop} {x3 : Int} {x4 : Int} {y0 : Int} {u : iST} (hR67 : ∀ r0 r1 r2, R671 r0 r1 r2 → R672 r0 r1 r2) (hQ : ∀ r0 r1, Q1 r0 r1 → Q2 r0 r1) : pw_isSmaller_95 R671 Q1 x3 x4 y0 u → pw_isSmaller_95 R672 Q2 x3 x4 y0 u := (br_mn (mn_w_isSmaller_114 hR67 hQ) (bd_mn (rd_mn fun _ => (mn_w_isSmaller_114 hR67 hQ))))
theorem wp_w_isSmaller_95 {Q1 Q2 : Int → iST → Prop} {R671 R672 : Int → Int → iST → Prop} {x3 : Int} {x4 : Int} {y0 : Int} {u : iST} (hR67 : ∀ r0 r1 r2, R671 r0 r1 r2 → R672 r0 r1 r2) (hQ : ∀ r0 r1, Q1 r0 r1 → Q2 r0 r1) : w_isSmaller_95 R671 Q1 x3 x4 y0 u → pw_isSmaller_95 R672 Q2 x3 x4 y0 u := (br_wp (wp_w_isSmaller_114 hR67 hQ) (bd_wp (rd_wp fun _ => (wp_w_isSmaller_114 hR67 hQ))))
def pw_isSmaller_67b (R67 : Int → Int → iST → Prop) (Q : Int → iST → Prop) (x3 : Int) (x4 : Int) (u : iST) : Prop :=
  br (200 ≤ x4) (
    ztp 0 (Q 0 u)) (
    rd (u.1 22) (fun v4 => 
    br (v4 ≤ x4) (
      pw_isSmaller_95 R67 Q x3 x4 (-1) u) (
      bdp x4 200 (rd (u.2.1 21 x4) (fun v7 => 
      pw_isSmaller_95 R67 Q x3 x4 v7 u)))))
theorem cj_w_isSmaller_67b {Q1 Q2 Q3 : Int → iST → Prop} {R671 R672 R673 : Int → Int → iST → Prop} {x3 : Int} {x4 : Int} {u : iST} (hR67 : ∀ r0 r1 r2, R671 r0 r1 r2 → R672 r0 r1 r2 → R673 r0 r1 r2) (hQ : ∀ r0 r1, Q1 r0 r1 → Q2 r0 r1 → Q3 r0 r1) : w_isSmaller_67b R671 Q1 x3 x4 u → pw_isSmaller_67b R672 Q2 x3 x4 u → w_isSmaller_67b R673 Q3 x3 x4 u := (br_cj (zt_cj (hQ _ _)) (rd_cj fun _ => (br_cj (cj_w_isSmaller_95 hR67 hQ) (bd_cj (rd_cj fun _ => (cj_w_isSmaller_95 hR67 hQ))))))
theorem mn_w_isSmaller_67b {Q1 Q2 : Int → iST → Prop} {R671 R672 : Int → Int → iST → Prop} {x3 : Int} {x4 : Int} {u : iST} (hR67 : ∀ r0 r1 r2, R671 r0 r1 r2 → R672 r0 r1 r2) (hQ : ∀ r0 r1, Q1 r0 r1 → Q2 r0 r1) : pw_isSmaller_67b R671 Q1 x3 x4 u → pw_isSmaller_67b R672 Q2 x3 x4 u := (br_mn (zt_mn (hQ _ _)) (rd_mn fun _ => (br_mn (mn_w_isSmaller_95 hR67 hQ) (bd_mn (rd_mn fun _ => (mn_w_isSmaller_95 hR67 hQ))))))
theorem wp_w_isSmaller_67b {Q1 Q2 : Int → iST → Prop} {R671 R672 : Int → Int → iST → Prop} {x3 : Int} {x4 : Int} {u : iST} (hR67 : ∀ r0 r1 r2, R671 r0 r1 r2 → R672 r0 r1 r2) (hQ : ∀ r0 r1, Q1 r0 r1 → Q2 r0 r1) : w_isSmaller_67b R671 Q1 x3 x4 u → pw_isSmaller_67b R672 Q2 x3 x4 u := (br_wp (zt_wp (hQ _ _)) (rd_wp fun _ => (br_wp (wp_w_isSmaller_95 hR67 hQ) (bd_wp (rd_wp fun _ => (wp_w_isSmaller_95 hR67 hQ))))))
def pw_isSmaller_67 (Q : Int → iST → Prop) (x3 : Int) (x4 : Int) (u : iST) : Prop := ∃ R67 : Int → Int → iST → Prop, (∀ (x3 : Int) (x4 : Int) (u : iST), R67 x3 x4 u → pw_isSmaller_67b R67 Q x3 x4 u) ∧ R67 x3 x4 u
theorem cj_w_isSmaller_67 {Q1 Q2 Q3 : Int → iST → Prop}  {x3 : Int} {x4 : Int} {u : iST} (hQ : ∀ r0 r1, Q1 r0 r1 → Q2 r0 r1 → Q3 r0 r1) : w_isSmaller_67 Q1 x3 x4 u → pw_isSmaller_67 Q2 x3 x4 u → w_isSmaller_67 Q3 x3 x4 u := by
  intro a b R3 c3
  obtain ⟨R2, c2, b2⟩ := b
  exact a (fun r0 r1 r2 => R2 r0 r1 r2 → R3 r0 r1 r2) (fun r0 r1 r2 a b => c3 r0 r1 r2 (cj_w_isSmaller_67b (fun r0 r1 r2 a b => a b) hQ a (c2 r0 r1 r2 b))) b2
theorem pw_isSmaller_67_i  {Q : Int → iST → Prop} {x3 : Int} {x4 : Int} {u : iST} (I : Int → Int → iST → Prop) (s : ∀ (x3 : Int) (x4 : Int) (u : iST), I x3 x4 u → pw_isSmaller_67b I Q x3 x4 u) (h : I x3 x4 u) : pw_isSmaller_67 Q x3 x4 u := ⟨I, s, h⟩
theorem mn_w_isSmaller_67 {Q1 Q2 : Int → iST → Prop}  {x3 : Int} {x4 : Int} {u : iST} (hQ : ∀ r0 r1, Q1 r0 r1 → Q2 r0 r1) : pw_isSmaller_67 Q1 x3 x4 u → pw_isSmaller_67 Q2 x3 x4 u := fun ⟨R, s, h⟩ => ⟨R, fun r0 r1 r2 a => mn_w_isSmaller_67b (fun r0 r1 r2 a => a) hQ (s r0 r1 r2 a), h⟩
theorem un_w_isSmaller_67  {Q : Int → iST → Prop} {x3 : Int} {x4 : Int} {u : iST} : pw_isSmaller_67 Q x3 x4 u → pw_isSmaller_67b (fun x3 x4 u => pw_isSmaller_67 Q x3 x4 u) Q x3 x4 u := fun ⟨R, s, h⟩ => mn_w_isSmaller_67b (fun r0 r1 r2 a => ⟨R, s, a⟩) (fun _ _ h => h) (s _ _ _ h)
theorem fo_w_isSmaller_67  {Q : Int → iST → Prop} {x3 : Int} {x4 : Int} {u : iST} : pw_isSmaller_67b (fun x3 x4 u => pw_isSmaller_67 Q x3 x4 u) Q x3 x4 u → pw_isSmaller_67 Q x3 x4 u := fun h => ⟨fun x3 x4 u => pw_isSmaller_67b (fun x3 x4 u => pw_isSmaller_67 Q x3 x4 u) Q x3 x4 u, fun r0 r1 r2 a => mn_w_isSmaller_67b (fun r0 r1 r2 a => un_w_isSmaller_67 a) (fun _ _ h => h) a, h⟩
theorem wp_w_isSmaller_67 {Q1 Q2 : Int → iST → Prop}  {x3 : Int} {x4 : Int} {u : iST} (hQ : ∀ r0 r1, Q1 r0 r1 → Q2 r0 r1) : w_isSmaller_67 Q1 x3 x4 u → pw_isSmaller_67 Q2 x3 x4 u := fun a => a (fun x3 x4 u => pw_isSmaller_67 Q2 x3 x4 u) (fun x3 x4 u b => fo_w_isSmaller_67 (wp_w_isSmaller_67b (fun r0 r1 r2 a => a) hQ b))
def pw_isSmaller_23b (R23 : Int → Int → Int → iST → Prop) (Q : Int → iST → Prop) (x1 : Int) (x3 : Int) (x4 : Int) (u : iST) : Prop :=
  br (x3 ≤ x4) (
    sw (iI u 22 0) (fun u => 
    pw_tellObject x1 (fun u => 
    ztp 0 (sw (iI u 64 0) (fun u => 
    pw_isSmaller_67 Q x3 0 u))) u)) (
    bdp x4 200 (rd (u.2.1 21 x4) (fun v8 => 
    bdp x4 200 (sw (iA u 65 x4 v8) (fun u => 
    ovp (x4 + 1) (
    R23 x1 x3 (x4 + 1) u))))))
theorem cj_w_isSmaller_23b {Q1 Q2 Q3 : Int → iST → Prop} {R231 R232 R233 : Int → Int → Int → iST → Prop} {x1 : Int} {x3 : Int} {x4 : Int} {u : iST} (hR23 : ∀ r0 r1 r2 r3, R231 r0 r1 r2 r3 → R232 r0 r1 r2 r3 → R233 r0 r1 r2 r3) (hQ : ∀ r0 r1, Q1 r0 r1 → Q2 r0 r1 → Q3 r0 r1) : w_isSmaller_23b R231 Q1 x1 x3 x4 u → pw_isSmaller_23b R232 Q2 x1 x3 x4 u → w_isSmaller_23b R233 Q3 x1 x3 x4 u := (br_cj (sw_cj fun _ => (cj_w_tellObject (fun _ => (zt_cj (sw_cj fun _ => (cj_w_isSmaller_67  hQ)))))) (bd_cj (rd_cj fun _ => (bd_cj (sw_cj fun _ => (ov_cj (hR23 _ _ _ _)))))))
theorem mn_w_isSmaller_23b {Q1 Q2 : Int → iST → Prop} {R231 R232 : Int → Int → Int → iST → Prop} {x1 : Int} {x3 : Int} {x4 : Int} {u : iST} (hR23 : ∀ r0 r1 r2 r3, R231 r0 r1 r2 r3 → R232 r0 r1 r2 r3) (hQ : ∀ r0 r1, Q1 r0 r1 → Q2 r0 r1) : pw_isSmaller_23b R231 Q1 x1 x3 x4 u → pw_isSmaller_23b R232 Q2 x1 x3 x4 u := (br_mn (sw_mn fun _ => (mn_w_tellObject (fun _ => (zt_mn (sw_mn fun _ => (mn_w_isSmaller_67  hQ)))))) (bd_mn (rd_mn fun _ => (bd_mn (sw_mn fun _ => (ov_mn (hR23 _ _ _ _)))))))
theorem wp_w_isSmaller_23b {Q1 Q2 : Int → iST → Prop} {R231 R232 : Int → Int → Int → iST → Prop} {x1 : Int} {x3 : Int} {x4 : Int} {u : iST} (hR23 : ∀ r0 r1 r2 r3, R231 r0 r1 r2 r3 → R232 r0 r1 r2 r3) (hQ : ∀ r0 r1, Q1 r0 r1 → Q2 r0 r1) : w_isSmaller_23b R231 Q1 x1 x3 x4 u → pw_isSmaller_23b R232 Q2 x1 x3 x4 u := (br_wp (sw_wp fun _ => (wp_w_tellObject (fun _ => (zt_wp (sw_wp fun _ => (wp_w_isSmaller_67  hQ)))))) (bd_wp (rd_wp fun _ => (bd_wp (sw_wp fun _ => (ov_wp (hR23 _ _ _ _)))))))
def pw_isSmaller_23 (Q : Int → iST → Prop) (x1 : Int) (x3 : Int) (x4 : Int) (u : iST) : Prop := ∃ R23 : Int → Int → Int → iST → Prop, (∀ (x1 : Int) (x3 : Int) (x4 : Int) (u : iST), R23 x1 x3 x4 u → pw_isSmaller_23b R23 Q x1 x3 x4 u) ∧ R23 x1 x3 x4 u
theorem cj_w_isSmaller_23 {Q1 Q2 Q3 : Int → iST → Prop}  {x1 : Int} {x3 : Int} {x4 : Int} {u : iST} (hQ : ∀ r0 r1, Q1 r0 r1 → Q2 r0 r1 → Q3 r0 r1) : w_isSmaller_23 Q1 x1 x3 x4 u → pw_isSmaller_23 Q2 x1 x3 x4 u → w_isSmaller_23 Q3 x1 x3 x4 u := by
  intro a b R3 c3
  obtain ⟨R2, c2, b2⟩ := b
  exact a (fun r0 r1 r2 r3 => R2 r0 r1 r2 r3 → R3 r0 r1 r2 r3) (fun r0 r1 r2 r3 a b => c3 r0 r1 r2 r3 (cj_w_isSmaller_23b (fun r0 r1 r2 r3 a b => a b) hQ a (c2 r0 r1 r2 r3 b))) b2
theorem pw_isSmaller_23_i  {Q : Int → iST → Prop} {x1 : Int} {x3 : Int} {x4 : Int} {u : iST} (I : Int → Int → Int → iST → Prop) (s : ∀ (x1 : Int) (x3 : Int) (x4 : Int) (u : iST), I x1 x3 x4 u → pw_isSmaller_23b I Q x1 x3 x4 u) (h : I x1 x3 x4 u) : pw_isSmaller_23 Q x1 x3 x4 u := ⟨I, s, h⟩
theorem mn_w_isSmaller_23 {Q1 Q2 : Int → iST → Prop}  {x1 : Int} {x3 : Int} {x4 : Int} {u : iST} (hQ : ∀ r0 r1, Q1 r0 r1 → Q2 r0 r1) : pw_isSmaller_23 Q1 x1 x3 x4 u → pw_isSmaller_23 Q2 x1 x3 x4 u := fun ⟨R, s, h⟩ => ⟨R, fun r0 r1 r2 r3 a => mn_w_isSmaller_23b (fun r0 r1 r2 r3 a => a) hQ (s r0 r1 r2 r3 a), h⟩
theorem un_w_isSmaller_23  {Q : Int → iST → Prop} {x1 : Int} {x3 : Int} {x4 : Int} {u : iST} : pw_isSmaller_23 Q x1 x3 x4 u → pw_isSmaller_23b (fun x1 x3 x4 u => pw_isSmaller_23 Q x1 x3 x4 u) Q x1 x3 x4 u := fun ⟨R, s, h⟩ => mn_w_isSmaller_23b (fun r0 r1 r2 r3 a => ⟨R, s, a⟩) (fun _ _ h => h) (s _ _ _ _ h)
theorem fo_w_isSmaller_23  {Q : Int → iST → Prop} {x1 : Int} {x3 : Int} {x4 : Int} {u : iST} : pw_isSmaller_23b (fun x1 x3 x4 u => pw_isSmaller_23 Q x1 x3 x4 u) Q x1 x3 x4 u → pw_isSmaller_23 Q x1 x3 x4 u := fun h => ⟨fun x1 x3 x4 u => pw_isSmaller_23b (fun x1 x3 x4 u => pw_isSmaller_23 Q x1 x3 x4 u) Q x1 x3 x4 u, fun r0 r1 r2 r3 a => mn_w_isSmaller_23b (fun r0 r1 r2 r3 a => un_w_isSmaller_23 a) (fun _ _ h => h) a, h⟩
theorem wp_w_isSmaller_23 {Q1 Q2 : Int → iST → Prop}  {x1 : Int} {x3 : Int} {x4 : Int} {u : iST} (hQ : ∀ r0 r1, Q1 r0 r1 → Q2 r0 r1) : w_isSmaller_23 Q1 x1 x3 x4 u → pw_isSmaller_23 Q2 x1 x3 x4 u := fun a => a (fun x1 x3 x4 u => pw_isSmaller_23 Q2 x1 x3 x4 u) (fun x1 x3 x4 u b => fo_w_isSmaller_23 (wp_w_isSmaller_23b (fun r0 r1 r2 r3 a => a) hQ b))
def pw_isSmaller (a0 : Int) (a1 : Int) (Q : Int → iST → Prop) (u : iST) : Prop :=
  ztp 1 (sw (iI u 64 1) (fun u => 
  sw (iI u 22 0) (fun u => 
  pw_tellObject a1 (fun u => 
  rd (u.1 22) (fun v2 => 
  pw_isSmaller_23 Q a0 v2 0 u)) u)))
theorem cj_w_isSmaller {Q1 Q2 Q3 : Int → iST → Prop}  {a0 : Int} {a1 : Int} {u : iST} (hQ : ∀ r0 r1, Q1 r0 r1 → Q2 r0 r1 → Q3 r0 r1) : w_isSmaller a0 a1 Q1 u → pw_isSmaller a0 a1 Q2 u → w_isSmaller a0 a1 Q3 u := (zt_cj (sw_cj fun _ => (sw_cj fun _ => (cj_w_tellObject (fun _ => (rd_cj fun _ => (cj_w_isSmaller_23  hQ)))))))
theorem mn_w_isSmaller {Q1 Q2 : Int → iST → Prop}  {a0 : Int} {a1 : Int} {u : iST} (hQ : ∀ r0 r1, Q1 r0 r1 → Q2 r0 r1) : pw_isSmaller a0 a1 Q1 u → pw_isSmaller a0 a1 Q2 u := (zt_mn (sw_mn fun _ => (sw_mn fun _ => (mn_w_tellObject (fun _ => (rd_mn fun _ => (mn_w_isSmaller_23  hQ)))))))
theorem wp_w_isSmaller {Q1 Q2 : Int → iST → Prop}  {a0 : Int} {a1 : Int} {u : iST} (hQ : ∀ r0 r1, Q1 r0 r1 → Q2 r0 r1) : w_isSmaller a0 a1 Q1 u → pw_isSmaller a0 a1 Q2 u := (zt_wp (sw_wp fun _ => (sw_wp fun _ => (wp_w_tellObject (fun _ => (rd_wp fun _ => (wp_w_isSmaller_23  hQ)))))))
def pw_isVariable (a0 : Int) (Q : Int → iST → Prop) (u : iST) : Prop :=
  pw_isSymbol a0 (fun v1 u => 
  br (v1 = 0) (
    ztp 0 (Q 0 u)) (
    br (a0 = 0) (
      ztp 0 (Q 0 u)) (
      br (a0 = 1) (
        ztp 0 (Q 0 u)) (
        ztp 1 (Q 1 u))))) u
theorem cj_w_isVariable {Q1 Q2 Q3 : Int → iST → Prop}  {a0 : Int} {u : iST} (hQ : ∀ r0 r1, Q1 r0 r1 → Q2 r0 r1 → Q3 r0 r1) : w_isVariable a0 Q1 u → pw_isVariable a0 Q2 u → w_isVariable a0 Q3 u := (cj_w_isSymbol (fun _ _ => (br_cj (zt_cj (hQ _ _)) (br_cj (zt_cj (hQ _ _)) (br_cj (zt_cj (hQ _ _)) (zt_cj (hQ _ _)))))))
theorem mn_w_isVariable {Q1 Q2 : Int → iST → Prop}  {a0 : Int} {u : iST} (hQ : ∀ r0 r1, Q1 r0 r1 → Q2 r0 r1) : pw_isVariable a0 Q1 u → pw_isVariable a0 Q2 u := (mn_w_isSymbol (fun _ _ => (br_mn (zt_mn (hQ _ _)) (br_mn (zt_mn (hQ _ _)) (br_mn (zt_mn (hQ _ _)) (zt_mn (hQ _ _)))))))
theorem wp_w_isVariable {Q1 Q2 : Int → iST → Prop}  {a0 : Int} {u : iST} (hQ : ∀ r0 r1, Q1 r0 r1 → Q2 r0 r1) : w_isVariable a0 Q1 u → pw_isVariable a0 Q2 u := (wp_w_isSymbol (fun _ _ => (br_wp (zt_wp (hQ _ _)) (br_wp (zt_wp (hQ _ _)) (br_wp (zt_wp (hQ _ _)) (zt_wp (hQ _ _)))))))
def pw_isConstant (a0 : Int) (Q : Int → iST → Prop) (u : iST) : Prop :=
  pw_isNatural a0 (fun v1 u => 
  br (v1 ≠ 0) (
    ztp 1 (Q 1 u)) (
    br (a0 = 0) (
      ztp 1 (Q 1 u)) (
      br (a0 = 1) (
        ztp 1 (Q 1 u)) (
        pw_isQuoted a0 (fun v2 u => 
        br (v2 = 0) (
          ztp 0 (Q 0 u)) (
          ztp 1 (Q 1 u))) u)))) u
theorem cj_w_isConstant {Q1 Q2 Q3 : Int → iST → Prop}  {a0 : Int} {u : iST} (hQ : ∀ r0 r1, Q1 r0 r1 → Q2 r0 r1 → Q3 r0 r1) : w_isConstant a0 Q1 u → pw_isConstant a0 Q2 u → w_isConstant a0 Q3 u := (cj_w_isNatural (fun _ _ => (br_cj (zt_cj (hQ _ _)) (br_cj (zt_cj (hQ _ _)) (br_cj (zt_cj (hQ _ _)) (cj_w_isQuoted (fun _ _ => (br_cj (zt_cj (hQ _ _)) (zt_cj (hQ _ _))))))))))
theorem mn_w_isConstant {Q1 Q2 : Int → iST → Prop}  {a0 : Int} {u : iST} (hQ : ∀ r0 r1, Q1 r0 r1 → Q2 r0 r1) : pw_isConstant a0 Q1 u → pw_isConstant a0 Q2 u := (mn_w_isNatural (fun _ _ => (br_mn (zt_mn (hQ _ _)) (br_mn (zt_mn (hQ _ _)) (br_mn (zt_mn (hQ _ _)) (mn_w_isQuoted (fun _ _ => (br_mn (zt_mn (hQ _ _)) (zt_mn (hQ _ _))))))))))
theorem wp_w_isConstant {Q1 Q2 : Int → iST → Prop}  {a0 : Int} {u : iST} (hQ : ∀ r0 r1, Q1 r0 r1 → Q2 r0 r1) : w_isConstant a0 Q1 u → pw_isConstant a0 Q2 u := (wp_w_isNatural (fun _ _ => (br_wp (zt_wp (hQ _ _)) (br_wp (zt_wp (hQ _ _)) (br_wp (zt_wp (hQ _ _)) (wp_w_isQuoted (fun _ _ => (br_wp (zt_wp (hQ _ _)) (zt_wp (hQ _ _))))))))))
def pw_isCall (a0 : Int) (Q : Int → iST → Prop) (u : iST) : Prop :=
  pw_isPair a0 (fun v1 u => 
  br (v1 = 0) (
    ztp 0 (Q 0 u)) (
    bdp a0 452000 (rd (u.2.1 0 a0) (fun v2 => 
    br (v2 = 2) (
      ztp 0 (Q 0 u)) (
      ztp 1 (Q 1 u)))))) u
theorem cj_w_isCall {Q1 Q2 Q3 : Int → iST → Prop}  {a0 : Int} {u : iST} (hQ : ∀ r0 r1, Q1 r0 r1 → Q2 r0 r1 → Q3 r0 r1) : w_isCall a0 Q1 u → pw_isCall a0 Q2 u → w_isCall a0 Q3 u := (cj_w_isPair (fun _ _ => (br_cj (zt_cj (hQ _ _)) (bd_cj (rd_cj fun _ => (br_cj (zt_cj (hQ _ _)) (zt_cj (hQ _ _))))))))
theorem mn_w_isCall {Q1 Q2 : Int → iST → Prop}  {a0 : Int} {u : iST} (hQ : ∀ r0 r1, Q1 r0 r1 → Q2 r0 r1) : pw_isCall a0 Q1 u → pw_isCall a0 Q2 u := (mn_w_isPair (fun _ _ => (br_mn (zt_mn (hQ _ _)) (bd_mn (rd_mn fun _ => (br_mn (zt_mn (hQ _ _)) (zt_mn (hQ _ _))))))))
theorem wp_w_isCall {Q1 Q2 : Int → iST → Prop}  {a0 : Int} {u : iST} (hQ : ∀ r0 r1, Q1 r0 r1 → Q2 r0 r1) : w_isCall a0 Q1 u → pw_isCall a0 Q2 u := (wp_w_isPair (fun _ _ => (br_wp (zt_wp (hQ _ _)) (bd_wp (rd_wp fun _ => (br_wp (zt_wp (hQ _ _)) (zt_wp (hQ _ _))))))))
def pw_isCallOf (a0 : Int) (a1 : Int) (Q : Int → iST → Prop) (u : iST) : Prop :=
  pw_isPair a0 (fun v1 u => 
  br (v1 = 0) (
    ztp 0 (Q 0 u)) (
    bdp a0 452000 (rd (u.2.1 0 a0) (fun v2 => 
    br (v2 ≠ a1) (
      ztp 0 (Q 0 u)) (
      ztp 1 (Q 1 u)))))) u
theorem cj_w_isCallOf {Q1 Q2 Q3 : Int → iST → Prop}  {a0 : Int} {a1 : Int} {u : iST} (hQ : ∀ r0 r1, Q1 r0 r1 → Q2 r0 r1 → Q3 r0 r1) : w_isCallOf a0 a1 Q1 u → pw_isCallOf a0 a1 Q2 u → w_isCallOf a0 a1 Q3 u := (cj_w_isPair (fun _ _ => (br_cj (zt_cj (hQ _ _)) (bd_cj (rd_cj fun _ => (br_cj (zt_cj (hQ _ _)) (zt_cj (hQ _ _))))))))
theorem mn_w_isCallOf {Q1 Q2 : Int → iST → Prop}  {a0 : Int} {a1 : Int} {u : iST} (hQ : ∀ r0 r1, Q1 r0 r1 → Q2 r0 r1) : pw_isCallOf a0 a1 Q1 u → pw_isCallOf a0 a1 Q2 u := (mn_w_isPair (fun _ _ => (br_mn (zt_mn (hQ _ _)) (bd_mn (rd_mn fun _ => (br_mn (zt_mn (hQ _ _)) (zt_mn (hQ _ _))))))))
theorem wp_w_isCallOf {Q1 Q2 : Int → iST → Prop}  {a0 : Int} {a1 : Int} {u : iST} (hQ : ∀ r0 r1, Q1 r0 r1 → Q2 r0 r1) : w_isCallOf a0 a1 Q1 u → pw_isCallOf a0 a1 Q2 u := (wp_w_isPair (fun _ _ => (br_wp (zt_wp (hQ _ _)) (bd_wp (rd_wp fun _ => (br_wp (zt_wp (hQ _ _)) (zt_wp (hQ _ _))))))))
def pw_constantOf (a0 : Int) (Q : Int → iST → Prop) (u : iST) : Prop :=
  pw_isNatural a0 (fun v1 u => 
  br (v1 ≠ 0) (
    Q a0 u) (
    br (a0 = 0) (
      Q a0 u) (
      br (a0 ≠ 1) (
        pw_list2 2 a0 (fun v2 u => 
        Q v2 u) u) (
        Q a0 u)))) u
theorem cj_w_constantOf {Q1 Q2 Q3 : Int → iST → Prop}  {a0 : Int} {u : iST} (hQ : ∀ r0 r1, Q1 r0 r1 → Q2 r0 r1 → Q3 r0 r1) : w_constantOf a0 Q1 u → pw_constantOf a0 Q2 u → w_constantOf a0 Q3 u := (cj_w_isNatural (fun _ _ => (br_cj (hQ _ _) (br_cj (hQ _ _) (br_cj (cj_w_list2 (fun _ _ => (hQ _ _))) (hQ _ _))))))
theorem mn_w_constantOf {Q1 Q2 : Int → iST → Prop}  {a0 : Int} {u : iST} (hQ : ∀ r0 r1, Q1 r0 r1 → Q2 r0 r1) : pw_constantOf a0 Q1 u → pw_constantOf a0 Q2 u := (mn_w_isNatural (fun _ _ => (br_mn (hQ _ _) (br_mn (hQ _ _) (br_mn (mn_w_list2 (fun _ _ => (hQ _ _))) (hQ _ _))))))
theorem wp_w_constantOf {Q1 Q2 : Int → iST → Prop}  {a0 : Int} {u : iST} (hQ : ∀ r0 r1, Q1 r0 r1 → Q2 r0 r1) : w_constantOf a0 Q1 u → pw_constantOf a0 Q2 u := (wp_w_isNatural (fun _ _ => (br_wp (hQ _ _) (br_wp (hQ _ _) (br_wp (wp_w_list2 (fun _ _ => (hQ _ _))) (hQ _ _))))))
def pw_valueOf (a0 : Int) (Q : Int → iST → Prop) (u : iST) : Prop :=
  pw_isPair a0 (fun v1 u => 
  br (v1 = 0) (
    Q a0 u) (
    bdp a0 452000 (rd (u.2.1 1 a0) (fun v2 => 
    bdp v2 452000 (rd (u.2.1 0 v2) (fun v3 => 
    Q v3 u)))))) u
theorem cj_w_valueOf {Q1 Q2 Q3 : Int → iST → Prop}  {a0 : Int} {u : iST} (hQ : ∀ r0 r1, Q1 r0 r1 → Q2 r0 r1 → Q3 r0 r1) : w_valueOf a0 Q1 u → pw_valueOf a0 Q2 u → w_valueOf a0 Q3 u := (cj_w_isPair (fun _ _ => (br_cj (hQ _ _) (bd_cj (rd_cj fun _ => (bd_cj (rd_cj fun _ => (hQ _ _))))))))
theorem mn_w_valueOf {Q1 Q2 : Int → iST → Prop}  {a0 : Int} {u : iST} (hQ : ∀ r0 r1, Q1 r0 r1 → Q2 r0 r1) : pw_valueOf a0 Q1 u → pw_valueOf a0 Q2 u := (mn_w_isPair (fun _ _ => (br_mn (hQ _ _) (bd_mn (rd_mn fun _ => (bd_mn (rd_mn fun _ => (hQ _ _))))))))
theorem wp_w_valueOf {Q1 Q2 : Int → iST → Prop}  {a0 : Int} {u : iST} (hQ : ∀ r0 r1, Q1 r0 r1 → Q2 r0 r1) : w_valueOf a0 Q1 u → pw_valueOf a0 Q2 u := (wp_w_isPair (fun _ _ => (br_wp (hQ _ _) (bd_wp (rd_wp fun _ => (bd_wp (rd_wp fun _ => (hQ _ _))))))))
def pw_term (a0 : Int) (a1 : Int) (Q : Int → iST → Prop) (u : iST) : Prop :=
  pw_nth a0 a1 (fun v1 u => 
  Q v1 u) u
theorem cj_w_term {Q1 Q2 Q3 : Int → iST → Prop}  {a0 : Int} {a1 : Int} {u : iST} (hQ : ∀ r0 r1, Q1 r0 r1 → Q2 r0 r1 → Q3 r0 r1) : w_term a0 a1 Q1 u → pw_term a0 a1 Q2 u → w_term a0 a1 Q3 u := (cj_w_nth (fun _ _ => (hQ _ _)))
theorem mn_w_term {Q1 Q2 : Int → iST → Prop}  {a0 : Int} {a1 : Int} {u : iST} (hQ : ∀ r0 r1, Q1 r0 r1 → Q2 r0 r1) : pw_term a0 a1 Q1 u → pw_term a0 a1 Q2 u := (mn_w_nth (fun _ _ => (hQ _ _)))
theorem wp_w_term {Q1 Q2 : Int → iST → Prop}  {a0 : Int} {a1 : Int} {u : iST} (hQ : ∀ r0 r1, Q1 r0 r1 → Q2 r0 r1) : w_term a0 a1 Q1 u → pw_term a0 a1 Q2 u := (wp_w_nth (fun _ _ => (hQ _ _)))
def pw_functionOf_26b (R26 : Int → Int → iST → Prop) (Q : Int → iST → Prop) (x1 : Int) (x2 : Int) (u : iST) : Prop :=
  rd (u.1 35) (fun v2 => 
  br (v2 ≤ x2) (
    Q (-1) u) (
    bdp x2 40 (rd (u.2.1 36 x2) (fun v3 => 
    br (v3 ≠ x1) (
      ovp (x2 + 1) (
      R26 x1 (x2 + 1) u)) (
      ovp (100 + x2) (
      Q (100 + x2) u))))))
theorem cj_w_functionOf_26b {Q1 Q2 Q3 : Int → iST → Prop} {R261 R262 R263 : Int → Int → iST → Prop} {x1 : Int} {x2 : Int} {u : iST} (hR26 : ∀ r0 r1 r2, R261 r0 r1 r2 → R262 r0 r1 r2 → R263 r0 r1 r2) (hQ : ∀ r0 r1, Q1 r0 r1 → Q2 r0 r1 → Q3 r0 r1) : w_functionOf_26b R261 Q1 x1 x2 u → pw_functionOf_26b R262 Q2 x1 x2 u → w_functionOf_26b R263 Q3 x1 x2 u := (rd_cj fun _ => (br_cj (hQ _ _) (bd_cj (rd_cj fun _ => (br_cj (ov_cj (hR26 _ _ _)) (ov_cj (hQ _ _)))))))
theorem mn_w_functionOf_26b {Q1 Q2 : Int → iST → Prop} {R261 R262 : Int → Int → iST → Prop} {x1 : Int} {x2 : Int} {u : iST} (hR26 : ∀ r0 r1 r2, R261 r0 r1 r2 → R262 r0 r1 r2) (hQ : ∀ r0 r1, Q1 r0 r1 → Q2 r0 r1) : pw_functionOf_26b R261 Q1 x1 x2 u → pw_functionOf_26b R262 Q2 x1 x2 u := (rd_mn fun _ => (br_mn (hQ _ _) (bd_mn (rd_mn fun _ => (br_mn (ov_mn (hR26 _ _ _)) (ov_mn (hQ _ _)))))))
theorem wp_w_functionOf_26b {Q1 Q2 : Int → iST → Prop} {R261 R262 : Int → Int → iST → Prop} {x1 : Int} {x2 : Int} {u : iST} (hR26 : ∀ r0 r1 r2, R261 r0 r1 r2 → R262 r0 r1 r2) (hQ : ∀ r0 r1, Q1 r0 r1 → Q2 r0 r1) : w_functionOf_26b R261 Q1 x1 x2 u → pw_functionOf_26b R262 Q2 x1 x2 u := (rd_wp fun _ => (br_wp (hQ _ _) (bd_wp (rd_wp fun _ => (br_wp (ov_wp (hR26 _ _ _)) (ov_wp (hQ _ _)))))))
def pw_functionOf_26 (Q : Int → iST → Prop) (x1 : Int) (x2 : Int) (u : iST) : Prop := ∃ R26 : Int → Int → iST → Prop, (∀ (x1 : Int) (x2 : Int) (u : iST), R26 x1 x2 u → pw_functionOf_26b R26 Q x1 x2 u) ∧ R26 x1 x2 u
theorem cj_w_functionOf_26 {Q1 Q2 Q3 : Int → iST → Prop}  {x1 : Int} {x2 : Int} {u : iST} (hQ : ∀ r0 r1, Q1 r0 r1 → Q2 r0 r1 → Q3 r0 r1) : w_functionOf_26 Q1 x1 x2 u → pw_functionOf_26 Q2 x1 x2 u → w_functionOf_26 Q3 x1 x2 u := by
  intro a b R3 c3
  obtain ⟨R2, c2, b2⟩ := b
  exact a (fun r0 r1 r2 => R2 r0 r1 r2 → R3 r0 r1 r2) (fun r0 r1 r2 a b => c3 r0 r1 r2 (cj_w_functionOf_26b (fun r0 r1 r2 a b => a b) hQ a (c2 r0 r1 r2 b))) b2
theorem pw_functionOf_26_i  {Q : Int → iST → Prop} {x1 : Int} {x2 : Int} {u : iST} (I : Int → Int → iST → Prop) (s : ∀ (x1 : Int) (x2 : Int) (u : iST), I x1 x2 u → pw_functionOf_26b I Q x1 x2 u) (h : I x1 x2 u) : pw_functionOf_26 Q x1 x2 u := ⟨I, s, h⟩
theorem mn_w_functionOf_26 {Q1 Q2 : Int → iST → Prop}  {x1 : Int} {x2 : Int} {u : iST} (hQ : ∀ r0 r1, Q1 r0 r1 → Q2 r0 r1) : pw_functionOf_26 Q1 x1 x2 u → pw_functionOf_26 Q2 x1 x2 u := fun ⟨R, s, h⟩ => ⟨R, fun r0 r1 r2 a => mn_w_functionOf_26b (fun r0 r1 r2 a => a) hQ (s r0 r1 r2 a), h⟩
theorem un_w_functionOf_26  {Q : Int → iST → Prop} {x1 : Int} {x2 : Int} {u : iST} : pw_functionOf_26 Q x1 x2 u → pw_functionOf_26b (fun x1 x2 u => pw_functionOf_26 Q x1 x2 u) Q x1 x2 u := fun ⟨R, s, h⟩ => mn_w_functionOf_26b (fun r0 r1 r2 a => ⟨R, s, a⟩) (fun _ _ h => h) (s _ _ _ h)
theorem fo_w_functionOf_26  {Q : Int → iST → Prop} {x1 : Int} {x2 : Int} {u : iST} : pw_functionOf_26b (fun x1 x2 u => pw_functionOf_26 Q x1 x2 u) Q x1 x2 u → pw_functionOf_26 Q x1 x2 u := fun h => ⟨fun x1 x2 u => pw_functionOf_26b (fun x1 x2 u => pw_functionOf_26 Q x1 x2 u) Q x1 x2 u, fun r0 r1 r2 a => mn_w_functionOf_26b (fun r0 r1 r2 a => un_w_functionOf_26 a) (fun _ _ h => h) a, h⟩
theorem wp_w_functionOf_26 {Q1 Q2 : Int → iST → Prop}  {x1 : Int} {x2 : Int} {u : iST} (hQ : ∀ r0 r1, Q1 r0 r1 → Q2 r0 r1) : w_functionOf_26 Q1 x1 x2 u → pw_functionOf_26 Q2 x1 x2 u := fun a => a (fun x1 x2 u => pw_functionOf_26 Q2 x1 x2 u) (fun x1 x2 u b => fo_w_functionOf_26 (wp_w_functionOf_26b (fun r0 r1 r2 a => a) hQ b))
def pw_functionOf_13 (Q : Int → iST → Prop) (x1 : Int) (u : iST) : Prop :=
  rd (u.1 57) (fun v1 => 
  br (x1 ≠ v1) (
    pw_functionOf_26 Q x1 0 u) (
    Q 99 u))
theorem cj_w_functionOf_13 {Q1 Q2 Q3 : Int → iST → Prop}  {x1 : Int} {u : iST} (hQ : ∀ r0 r1, Q1 r0 r1 → Q2 r0 r1 → Q3 r0 r1) : w_functionOf_13 Q1 x1 u → pw_functionOf_13 Q2 x1 u → w_functionOf_13 Q3 x1 u := (rd_cj fun _ => (br_cj (cj_w_functionOf_26  hQ) (hQ _ _)))
theorem mn_w_functionOf_13 {Q1 Q2 : Int → iST → Prop}  {x1 : Int} {u : iST} (hQ : ∀ r0 r1, Q1 r0 r1 → Q2 r0 r1) : pw_functionOf_13 Q1 x1 u → pw_functionOf_13 Q2 x1 u := (rd_mn fun _ => (br_mn (mn_w_functionOf_26  hQ) (hQ _ _)))
theorem wp_w_functionOf_13 {Q1 Q2 : Int → iST → Prop}  {x1 : Int} {u : iST} (hQ : ∀ r0 r1, Q1 r0 r1 → Q2 r0 r1) : w_functionOf_13 Q1 x1 u → pw_functionOf_13 Q2 x1 u := (rd_wp fun _ => (br_wp (wp_w_functionOf_26  hQ) (hQ _ _)))
def pw_functionOf (a0 : Int) (Q : Int → iST → Prop) (u : iST) : Prop :=
  br (a0 < 3) (
    pw_functionOf_13 Q a0 u) (
    br (16 < a0) (
      pw_functionOf_13 Q a0 u) (
      Q a0 u))
theorem cj_w_functionOf {Q1 Q2 Q3 : Int → iST → Prop}  {a0 : Int} {u : iST} (hQ : ∀ r0 r1, Q1 r0 r1 → Q2 r0 r1 → Q3 r0 r1) : w_functionOf a0 Q1 u → pw_functionOf a0 Q2 u → w_functionOf a0 Q3 u := (br_cj (cj_w_functionOf_13  hQ) (br_cj (cj_w_functionOf_13  hQ) (hQ _ _)))
theorem mn_w_functionOf {Q1 Q2 : Int → iST → Prop}  {a0 : Int} {u : iST} (hQ : ∀ r0 r1, Q1 r0 r1 → Q2 r0 r1) : pw_functionOf a0 Q1 u → pw_functionOf a0 Q2 u := (br_mn (mn_w_functionOf_13  hQ) (br_mn (mn_w_functionOf_13  hQ) (hQ _ _)))
theorem wp_w_functionOf {Q1 Q2 : Int → iST → Prop}  {a0 : Int} {u : iST} (hQ : ∀ r0 r1, Q1 r0 r1 → Q2 r0 r1) : w_functionOf a0 Q1 u → pw_functionOf a0 Q2 u := (br_wp (wp_w_functionOf_13  hQ) (br_wp (wp_w_functionOf_13  hQ) (hQ _ _)))
def pw_manyOf (a0 : Int) (Q : Int → iST → Prop) (u : iST) : Prop :=
  br (a0 ≠ 3) (
    br (9 < a0) (
      br (16 < a0) (
        br (a0 ≠ 99) (
          ovp (a0 - 100) (
          bdp (a0 - 100) 40 (rd (u.2.1 37 (a0 - 100)) (fun v2 => 
          Q v2 u)))) (
          rd (u.1 58) (fun v3 => 
          Q v3 u))) (
        Q 1 u)) (
      Q 2 u)) (
    Q 3 u)
theorem cj_w_manyOf {Q1 Q2 Q3 : Int → iST → Prop}  {a0 : Int} {u : iST} (hQ : ∀ r0 r1, Q1 r0 r1 → Q2 r0 r1 → Q3 r0 r1) : w_manyOf a0 Q1 u → pw_manyOf a0 Q2 u → w_manyOf a0 Q3 u := (br_cj (br_cj (br_cj (br_cj (ov_cj (bd_cj (rd_cj fun _ => (hQ _ _)))) (rd_cj fun _ => (hQ _ _))) (hQ _ _)) (hQ _ _)) (hQ _ _))
theorem mn_w_manyOf {Q1 Q2 : Int → iST → Prop}  {a0 : Int} {u : iST} (hQ : ∀ r0 r1, Q1 r0 r1 → Q2 r0 r1) : pw_manyOf a0 Q1 u → pw_manyOf a0 Q2 u := (br_mn (br_mn (br_mn (br_mn (ov_mn (bd_mn (rd_mn fun _ => (hQ _ _)))) (rd_mn fun _ => (hQ _ _))) (hQ _ _)) (hQ _ _)) (hQ _ _))
theorem wp_w_manyOf {Q1 Q2 : Int → iST → Prop}  {a0 : Int} {u : iST} (hQ : ∀ r0 r1, Q1 r0 r1 → Q2 r0 r1) : w_manyOf a0 Q1 u → pw_manyOf a0 Q2 u := (br_wp (br_wp (br_wp (br_wp (ov_wp (bd_wp (rd_wp fun _ => (hQ _ _)))) (rd_wp fun _ => (hQ _ _))) (hQ _ _)) (hQ _ _)) (hQ _ _))
def pw_isReserved (a0 : Int) (Q : Int → iST → Prop) (u : iST) : Prop :=
  br (a0 < 0) (
    ztp 0 (Q 0 u)) (
    br (16 < a0) (
      ztp 0 (Q 0 u)) (
      ztp 1 (Q 1 u)))
theorem cj_w_isReserved {Q1 Q2 Q3 : Int → iST → Prop}  {a0 : Int} {u : iST} (hQ : ∀ r0 r1, Q1 r0 r1 → Q2 r0 r1 → Q3 r0 r1) : w_isReserved a0 Q1 u → pw_isReserved a0 Q2 u → w_isReserved a0 Q3 u := (br_cj (zt_cj (hQ _ _)) (br_cj (zt_cj (hQ _ _)) (zt_cj (hQ _ _))))
theorem mn_w_isReserved {Q1 Q2 : Int → iST → Prop}  {a0 : Int} {u : iST} (hQ : ∀ r0 r1, Q1 r0 r1 → Q2 r0 r1) : pw_isReserved a0 Q1 u → pw_isReserved a0 Q2 u := (br_mn (zt_mn (hQ _ _)) (br_mn (zt_mn (hQ _ _)) (zt_mn (hQ _ _))))
theorem wp_w_isReserved {Q1 Q2 : Int → iST → Prop}  {a0 : Int} {u : iST} (hQ : ∀ r0 r1, Q1 r0 r1 → Q2 r0 r1) : w_isReserved a0 Q1 u → pw_isReserved a0 Q2 u := (br_wp (zt_wp (hQ _ _)) (br_wp (zt_wp (hQ _ _)) (zt_wp (hQ _ _))))
def pw_fail (a0 : Int) (Q : iST → Prop) (u : iST) : Prop :=
  rd (u.1 61) (fun v1 => 
  br (v1 ≠ 0) (
    Q u) (
    sw (iI u 61 a0) (fun u => 
    Q u)))
theorem cj_w_fail {Q1 Q2 Q3 : iST → Prop}  {a0 : Int} {u : iST} (hQ : ∀ r0, Q1 r0 → Q2 r0 → Q3 r0) : w_fail a0 Q1 u → pw_fail a0 Q2 u → w_fail a0 Q3 u := (rd_cj fun _ => (br_cj (hQ _) (sw_cj fun _ => (hQ _))))
theorem mn_w_fail {Q1 Q2 : iST → Prop}  {a0 : Int} {u : iST} (hQ : ∀ r0, Q1 r0 → Q2 r0) : pw_fail a0 Q1 u → pw_fail a0 Q2 u := (rd_mn fun _ => (br_mn (hQ _) (sw_mn fun _ => (hQ _))))
theorem wp_w_fail {Q1 Q2 : iST → Prop}  {a0 : Int} {u : iST} (hQ : ∀ r0, Q1 r0 → Q2 r0) : w_fail a0 Q1 u → pw_fail a0 Q2 u := (rd_wp fun _ => (br_wp (hQ _) (sw_wp fun _ => (hQ _))))
def pw_sizeOf (a0 : Int) (Q : Int → iST → Prop) (u : iST) : Prop :=
  pw_isCall a0 (fun v1 u => 
  br (v1 = 0) (
    Q 1 u) (
    bdp a0 452000 (rd (u.2.1 3 a0) (fun v2 => 
    Q v2 u)))) u
theorem cj_w_sizeOf {Q1 Q2 Q3 : Int → iST → Prop}  {a0 : Int} {u : iST} (hQ : ∀ r0 r1, Q1 r0 r1 → Q2 r0 r1 → Q3 r0 r1) : w_sizeOf a0 Q1 u → pw_sizeOf a0 Q2 u → w_sizeOf a0 Q3 u := (cj_w_isCall (fun _ _ => (br_cj (hQ _ _) (bd_cj (rd_cj fun _ => (hQ _ _))))))
theorem mn_w_sizeOf {Q1 Q2 : Int → iST → Prop}  {a0 : Int} {u : iST} (hQ : ∀ r0 r1, Q1 r0 r1 → Q2 r0 r1) : pw_sizeOf a0 Q1 u → pw_sizeOf a0 Q2 u := (mn_w_isCall (fun _ _ => (br_mn (hQ _ _) (bd_mn (rd_mn fun _ => (hQ _ _))))))
theorem wp_w_sizeOf {Q1 Q2 : Int → iST → Prop}  {a0 : Int} {u : iST} (hQ : ∀ r0 r1, Q1 r0 r1 → Q2 r0 r1) : w_sizeOf a0 Q1 u → pw_sizeOf a0 Q2 u := (wp_w_isCall (fun _ _ => (br_wp (hQ _ _) (bd_wp (rd_wp fun _ => (hQ _ _))))))
def pw_callFrom_84 (Q : Int → iST → Prop) (x5 : Int) (y1 : Int) (y2 : Int) (u : iST) : Prop :=
  bdp y1 452000 (sw (iA u 3 y1 y2) (fun u => 
  Q x5 u))
theorem cj_w_callFrom_84 {Q1 Q2 Q3 : Int → iST → Prop}  {x5 : Int} {y1 : Int} {y2 : Int} {u : iST} (hQ : ∀ r0 r1, Q1 r0 r1 → Q2 r0 r1 → Q3 r0 r1) : w_callFrom_84 Q1 x5 y1 y2 u → pw_callFrom_84 Q2 x5 y1 y2 u → w_callFrom_84 Q3 x5 y1 y2 u := (bd_cj (sw_cj fun _ => (hQ _ _)))
theorem mn_w_callFrom_84 {Q1 Q2 : Int → iST → Prop}  {x5 : Int} {y1 : Int} {y2 : Int} {u : iST} (hQ : ∀ r0 r1, Q1 r0 r1 → Q2 r0 r1) : pw_callFrom_84 Q1 x5 y1 y2 u → pw_callFrom_84 Q2 x5 y1 y2 u := (bd_mn (sw_mn fun _ => (hQ _ _)))
theorem wp_w_callFrom_84 {Q1 Q2 : Int → iST → Prop}  {x5 : Int} {y1 : Int} {y2 : Int} {u : iST} (hQ : ∀ r0 r1, Q1 r0 r1 → Q2 r0 r1) : w_callFrom_84 Q1 x5 y1 y2 u → pw_callFrom_84 Q2 x5 y1 y2 u := (bd_wp (sw_wp fun _ => (hQ _ _)))
def pw_callFrom_13b (R13 : Int → Int → Int → Int → Int → iST → Prop) (Q : Int → iST → Prop) (x1 : Int) (x2 : Int) (x3 : Int) (x4 : Int) (x5 : Int) (u : iST) : Prop :=
  br (x5 < x2) (
    pw_pair x1 x3 (fun v3 u => 
    br (x4 ≤ 30000) (
      pw_callFrom_84 Q v3 v3 x4 u) (
      pw_callFrom_84 Q v3 v3 30000 u)) u) (
    bdp x5 2400 (rd (u.2.1 70 x5) (fun v4 => 
    pw_sizeOf v4 (fun v5 u => 
    ovp (x4 + v5) (
    bdp x5 2400 (rd (u.2.1 70 x5) (fun v7 => 
    pw_pair v7 x3 (fun v8 u => 
    ovp (x5 + (-1)) (
    R13 x1 x2 v8 (x4 + v5) (x5 + (-1)) u)) u)))) u)))
theorem cj_w_callFrom_13b {Q1 Q2 Q3 : Int → iST → Prop} {R131 R132 R133 : Int → Int → Int → Int → Int → iST → Prop} {x1 : Int} {x2 : Int} {x3 : Int} {x4 : Int} {x5 : Int} {u : iST} (hR13 : ∀ r0 r1 r2 r3 r4 r5, R131 r0 r1 r2 r3 r4 r5 → R132 r0 r1 r2 r3 r4 r5 → R133 r0 r1 r2 r3 r4 r5) (hQ : ∀ r0 r1, Q1 r0 r1 → Q2 r0 r1 → Q3 r0 r1) : w_callFrom_13b R131 Q1 x1 x2 x3 x4 x5 u → pw_callFrom_13b R132 Q2 x1 x2 x3 x4 x5 u → w_callFrom_13b R133 Q3 x1 x2 x3 x4 x5 u := (br_cj (cj_w_pair (fun _ _ => (br_cj (cj_w_callFrom_84  hQ) (cj_w_callFrom_84  hQ)))) (bd_cj (rd_cj fun _ => (cj_w_sizeOf (fun _ _ => (ov_cj (bd_cj (rd_cj fun _ => (cj_w_pair (fun _ _ => (ov_cj (hR13 _ _ _ _ _ _))))))))))))
theorem mn_w_callFrom_13b {Q1 Q2 : Int → iST → Prop} {R131 R132 : Int → Int → Int → Int → Int → iST → Prop} {x1 : Int} {x2 : Int} {x3 : Int} {x4 : Int} {x5 : Int} {u : iST} (hR13 : ∀ r0 r1 r2 r3 r4 r5, R131 r0 r1 r2 r3 r4 r5 → R132 r0 r1 r2 r3 r4 r5) (hQ : ∀ r0 r1, Q1 r0 r1 → Q2 r0 r1) : pw_callFrom_13b R131 Q1 x1 x2 x3 x4 x5 u → pw_callFrom_13b R132 Q2 x1 x2 x3 x4 x5 u := (br_mn (mn_w_pair (fun _ _ => (br_mn (mn_w_callFrom_84  hQ) (mn_w_callFrom_84  hQ)))) (bd_mn (rd_mn fun _ => (mn_w_sizeOf (fun _ _ => (ov_mn (bd_mn (rd_mn fun _ => (mn_w_pair (fun _ _ => (ov_mn (hR13 _ _ _ _ _ _))))))))))))
theorem wp_w_callFrom_13b {Q1 Q2 : Int → iST → Prop} {R131 R132 : Int → Int → Int → Int → Int → iST → Prop} {x1 : Int} {x2 : Int} {x3 : Int} {x4 : Int} {x5 : Int} {u : iST} (hR13 : ∀ r0 r1 r2 r3 r4 r5, R131 r0 r1 r2 r3 r4 r5 → R132 r0 r1 r2 r3 r4 r5) (hQ : ∀ r0 r1, Q1 r0 r1 → Q2 r0 r1) : w_callFrom_13b R131 Q1 x1 x2 x3 x4 x5 u → pw_callFrom_13b R132 Q2 x1 x2 x3 x4 x5 u := (br_wp (wp_w_pair (fun _ _ => (br_wp (wp_w_callFrom_84  hQ) (wp_w_callFrom_84  hQ)))) (bd_wp (rd_wp fun _ => (wp_w_sizeOf (fun _ _ => (ov_wp (bd_wp (rd_wp fun _ => (wp_w_pair (fun _ _ => (ov_wp (hR13 _ _ _ _ _ _))))))))))))
def pw_callFrom_13 (Q : Int → iST → Prop) (x1 : Int) (x2 : Int) (x3 : Int) (x4 : Int) (x5 : Int) (u : iST) : Prop := ∃ R13 : Int → Int → Int → Int → Int → iST → Prop, (∀ (x1 : Int) (x2 : Int) (x3 : Int) (x4 : Int) (x5 : Int) (u : iST), R13 x1 x2 x3 x4 x5 u → pw_callFrom_13b R13 Q x1 x2 x3 x4 x5 u) ∧ R13 x1 x2 x3 x4 x5 u
theorem cj_w_callFrom_13 {Q1 Q2 Q3 : Int → iST → Prop}  {x1 : Int} {x2 : Int} {x3 : Int} {x4 : Int} {x5 : Int} {u : iST} (hQ : ∀ r0 r1, Q1 r0 r1 → Q2 r0 r1 → Q3 r0 r1) : w_callFrom_13 Q1 x1 x2 x3 x4 x5 u → pw_callFrom_13 Q2 x1 x2 x3 x4 x5 u → w_callFrom_13 Q3 x1 x2 x3 x4 x5 u := by
  intro a b R3 c3
  obtain ⟨R2, c2, b2⟩ := b
  exact a (fun r0 r1 r2 r3 r4 r5 => R2 r0 r1 r2 r3 r4 r5 → R3 r0 r1 r2 r3 r4 r5) (fun r0 r1 r2 r3 r4 r5 a b => c3 r0 r1 r2 r3 r4 r5 (cj_w_callFrom_13b (fun r0 r1 r2 r3 r4 r5 a b => a b) hQ a (c2 r0 r1 r2 r3 r4 r5 b))) b2
theorem pw_callFrom_13_i  {Q : Int → iST → Prop} {x1 : Int} {x2 : Int} {x3 : Int} {x4 : Int} {x5 : Int} {u : iST} (I : Int → Int → Int → Int → Int → iST → Prop) (s : ∀ (x1 : Int) (x2 : Int) (x3 : Int) (x4 : Int) (x5 : Int) (u : iST), I x1 x2 x3 x4 x5 u → pw_callFrom_13b I Q x1 x2 x3 x4 x5 u) (h : I x1 x2 x3 x4 x5 u) : pw_callFrom_13 Q x1 x2 x3 x4 x5 u := ⟨I, s, h⟩
theorem mn_w_callFrom_13 {Q1 Q2 : Int → iST → Prop}  {x1 : Int} {x2 : Int} {x3 : Int} {x4 : Int} {x5 : Int} {u : iST} (hQ : ∀ r0 r1, Q1 r0 r1 → Q2 r0 r1) : pw_callFrom_13 Q1 x1 x2 x3 x4 x5 u → pw_callFrom_13 Q2 x1 x2 x3 x4 x5 u := fun ⟨R, s, h⟩ => ⟨R, fun r0 r1 r2 r3 r4 r5 a => mn_w_callFrom_13b (fun r0 r1 r2 r3 r4 r5 a => a) hQ (s r0 r1 r2 r3 r4 r5 a), h⟩
theorem un_w_callFrom_13  {Q : Int → iST → Prop} {x1 : Int} {x2 : Int} {x3 : Int} {x4 : Int} {x5 : Int} {u : iST} : pw_callFrom_13 Q x1 x2 x3 x4 x5 u → pw_callFrom_13b (fun x1 x2 x3 x4 x5 u => pw_callFrom_13 Q x1 x2 x3 x4 x5 u) Q x1 x2 x3 x4 x5 u := fun ⟨R, s, h⟩ => mn_w_callFrom_13b (fun r0 r1 r2 r3 r4 r5 a => ⟨R, s, a⟩) (fun _ _ h => h) (s _ _ _ _ _ _ h)
theorem fo_w_callFrom_13  {Q : Int → iST → Prop} {x1 : Int} {x2 : Int} {x3 : Int} {x4 : Int} {x5 : Int} {u : iST} : pw_callFrom_13b (fun x1 x2 x3 x4 x5 u => pw_callFrom_13 Q x1 x2 x3 x4 x5 u) Q x1 x2 x3 x4 x5 u → pw_callFrom_13 Q x1 x2 x3 x4 x5 u := fun h => ⟨fun x1 x2 x3 x4 x5 u => pw_callFrom_13b (fun x1 x2 x3 x4 x5 u => pw_callFrom_13 Q x1 x2 x3 x4 x5 u) Q x1 x2 x3 x4 x5 u, fun r0 r1 r2 r3 r4 r5 a => mn_w_callFrom_13b (fun r0 r1 r2 r3 r4 r5 a => un_w_callFrom_13 a) (fun _ _ h => h) a, h⟩
theorem wp_w_callFrom_13 {Q1 Q2 : Int → iST → Prop}  {x1 : Int} {x2 : Int} {x3 : Int} {x4 : Int} {x5 : Int} {u : iST} (hQ : ∀ r0 r1, Q1 r0 r1 → Q2 r0 r1) : w_callFrom_13 Q1 x1 x2 x3 x4 x5 u → pw_callFrom_13 Q2 x1 x2 x3 x4 x5 u := fun a => a (fun x1 x2 x3 x4 x5 u => pw_callFrom_13 Q2 x1 x2 x3 x4 x5 u) (fun x1 x2 x3 x4 x5 u b => fo_w_callFrom_13 (wp_w_callFrom_13b (fun r0 r1 r2 r3 r4 r5 a => a) hQ b))
def pw_callFrom (a0 : Int) (a1 : Int) (Q : Int → iST → Prop) (u : iST) : Prop :=
  rd (u.1 71) (fun v1 => 
  ovp (v1 - 1) (
  pw_callFrom_13 Q a0 a1 0 1 (v1 - 1) u))
theorem cj_w_callFrom {Q1 Q2 Q3 : Int → iST → Prop}  {a0 : Int} {a1 : Int} {u : iST} (hQ : ∀ r0 r1, Q1 r0 r1 → Q2 r0 r1 → Q3 r0 r1) : w_callFrom a0 a1 Q1 u → pw_callFrom a0 a1 Q2 u → w_callFrom a0 a1 Q3 u := (rd_cj fun _ => (ov_cj (cj_w_callFrom_13  hQ)))
theorem mn_w_callFrom {Q1 Q2 : Int → iST → Prop}  {a0 : Int} {a1 : Int} {u : iST} (hQ : ∀ r0 r1, Q1 r0 r1 → Q2 r0 r1) : pw_callFrom a0 a1 Q1 u → pw_callFrom a0 a1 Q2 u := (rd_mn fun _ => (ov_mn (mn_w_callFrom_13  hQ)))
theorem wp_w_callFrom {Q1 Q2 : Int → iST → Prop}  {a0 : Int} {a1 : Int} {u : iST} (hQ : ∀ r0 r1, Q1 r0 r1 → Q2 r0 r1) : w_callFrom a0 a1 Q1 u → pw_callFrom a0 a1 Q2 u := (rd_wp fun _ => (ov_wp (wp_w_callFrom_13  hQ)))
def pw_build (a0 : Int) (Q : iST → Prop) (u : iST) : Prop :=
  rd (u.1 71) (fun v1 => 
  bdp v1 2400 (sw (iA u 70 v1 a0) (fun u => 
  rd (u.1 71) (fun v2 => 
  ovp (v2 + 1) (
  sw (iI u 71 (v2 + 1)) (fun u => 
  Q u))))))
theorem cj_w_build {Q1 Q2 Q3 : iST → Prop}  {a0 : Int} {u : iST} (hQ : ∀ r0, Q1 r0 → Q2 r0 → Q3 r0) : w_build a0 Q1 u → pw_build a0 Q2 u → w_build a0 Q3 u := (rd_cj fun _ => (bd_cj (sw_cj fun _ => (rd_cj fun _ => (ov_cj (sw_cj fun _ => (hQ _)))))))
theorem mn_w_build {Q1 Q2 : iST → Prop}  {a0 : Int} {u : iST} (hQ : ∀ r0, Q1 r0 → Q2 r0) : pw_build a0 Q1 u → pw_build a0 Q2 u := (rd_mn fun _ => (bd_mn (sw_mn fun _ => (rd_mn fun _ => (ov_mn (sw_mn fun _ => (hQ _)))))))
theorem wp_w_build {Q1 Q2 : iST → Prop}  {a0 : Int} {u : iST} (hQ : ∀ r0, Q1 r0 → Q2 r0) : w_build a0 Q1 u → pw_build a0 Q2 u := (rd_wp fun _ => (bd_wp (sw_wp fun _ => (rd_wp fun _ => (ov_wp (sw_wp fun _ => (hQ _)))))))
def pw_openCall (a0 : Int) (Q : iST → Prop) (u : iST) : Prop :=
  rd (u.1 69) (fun v1 => 
  bdp v1 1200 (sw (iA u 66 v1 a0) (fun u => 
  rd (u.1 69) (fun v2 => 
  bdp a0 452000 (rd (u.2.1 1 a0) (fun v3 => 
  bdp v2 1200 (sw (iA u 67 v2 v3) (fun u => 
  rd (u.1 69) (fun v4 => 
  rd (u.1 71) (fun v5 => 
  bdp v4 1200 (sw (iA u 68 v4 v5) (fun u => 
  rd (u.1 69) (fun v6 => 
  ovp (v6 + 1) (
  sw (iI u 69 (v6 + 1)) (fun u => 
  Q u)))))))))))))))
theorem cj_w_openCall {Q1 Q2 Q3 : iST → Prop}  {a0 : Int} {u : iST} (hQ : ∀ r0, Q1 r0 → Q2 r0 → Q3 r0) : w_openCall a0 Q1 u → pw_openCall a0 Q2 u → w_openCall a0 Q3 u := (rd_cj fun _ => (bd_cj (sw_cj fun _ => (rd_cj fun _ => (bd_cj (rd_cj fun _ => (bd_cj (sw_cj fun _ => (rd_cj fun _ => (rd_cj fun _ => (bd_cj (sw_cj fun _ => (rd_cj fun _ => (ov_cj (sw_cj fun _ => (hQ _))))))))))))))))
theorem mn_w_openCall {Q1 Q2 : iST → Prop}  {a0 : Int} {u : iST} (hQ : ∀ r0, Q1 r0 → Q2 r0) : pw_openCall a0 Q1 u → pw_openCall a0 Q2 u := (rd_mn fun _ => (bd_mn (sw_mn fun _ => (rd_mn fun _ => (bd_mn (rd_mn fun _ => (bd_mn (sw_mn fun _ => (rd_mn fun _ => (rd_mn fun _ => (bd_mn (sw_mn fun _ => (rd_mn fun _ => (ov_mn (sw_mn fun _ => (hQ _))))))))))))))))
theorem wp_w_openCall {Q1 Q2 : iST → Prop}  {a0 : Int} {u : iST} (hQ : ∀ r0, Q1 r0 → Q2 r0) : w_openCall a0 Q1 u → pw_openCall a0 Q2 u := (rd_wp fun _ => (bd_wp (sw_wp fun _ => (rd_wp fun _ => (bd_wp (rd_wp fun _ => (bd_wp (sw_wp fun _ => (rd_wp fun _ => (rd_wp fun _ => (bd_wp (sw_wp fun _ => (rd_wp fun _ => (ov_wp (sw_wp fun _ => (hQ _))))))))))))))))
def pw_substituted_2b (R2 : Int → Int → iST → Prop) (Q : Int → iST → Prop) (x1 : Int) (x2 : Int) (u : iST) : Prop :=
  rd (u.1 74) (fun v1 => 
  br (v1 ≤ x2) (
    Q x1 u) (
    bdp x2 400 (rd (u.2.1 72 x2) (fun v2 => 
    br (v2 ≠ x1) (
      ovp (x2 + 1) (
      R2 x1 (x2 + 1) u)) (
      bdp x2 400 (rd (u.2.1 73 x2) (fun v4 => 
      Q v4 u)))))))
theorem cj_w_substituted_2b {Q1 Q2 Q3 : Int → iST → Prop} {R21 R22 R23 : Int → Int → iST → Prop} {x1 : Int} {x2 : Int} {u : iST} (hR2 : ∀ r0 r1 r2, R21 r0 r1 r2 → R22 r0 r1 r2 → R23 r0 r1 r2) (hQ : ∀ r0 r1, Q1 r0 r1 → Q2 r0 r1 → Q3 r0 r1) : w_substituted_2b R21 Q1 x1 x2 u → pw_substituted_2b R22 Q2 x1 x2 u → w_substituted_2b R23 Q3 x1 x2 u := (rd_cj fun _ => (br_cj (hQ _ _) (bd_cj (rd_cj fun _ => (br_cj (ov_cj (hR2 _ _ _)) (bd_cj (rd_cj fun _ => (hQ _ _))))))))
theorem mn_w_substituted_2b {Q1 Q2 : Int → iST → Prop} {R21 R22 : Int → Int → iST → Prop} {x1 : Int} {x2 : Int} {u : iST} (hR2 : ∀ r0 r1 r2, R21 r0 r1 r2 → R22 r0 r1 r2) (hQ : ∀ r0 r1, Q1 r0 r1 → Q2 r0 r1) : pw_substituted_2b R21 Q1 x1 x2 u → pw_substituted_2b R22 Q2 x1 x2 u := (rd_mn fun _ => (br_mn (hQ _ _) (bd_mn (rd_mn fun _ => (br_mn (ov_mn (hR2 _ _ _)) (bd_mn (rd_mn fun _ => (hQ _ _))))))))
theorem wp_w_substituted_2b {Q1 Q2 : Int → iST → Prop} {R21 R22 : Int → Int → iST → Prop} {x1 : Int} {x2 : Int} {u : iST} (hR2 : ∀ r0 r1 r2, R21 r0 r1 r2 → R22 r0 r1 r2) (hQ : ∀ r0 r1, Q1 r0 r1 → Q2 r0 r1) : w_substituted_2b R21 Q1 x1 x2 u → pw_substituted_2b R22 Q2 x1 x2 u := (rd_wp fun _ => (br_wp (hQ _ _) (bd_wp (rd_wp fun _ => (br_wp (ov_wp (hR2 _ _ _)) (bd_wp (rd_wp fun _ => (hQ _ _))))))))
def pw_substituted_2 (Q : Int → iST → Prop) (x1 : Int) (x2 : Int) (u : iST) : Prop := ∃ R2 : Int → Int → iST → Prop, (∀ (x1 : Int) (x2 : Int) (u : iST), R2 x1 x2 u → pw_substituted_2b R2 Q x1 x2 u) ∧ R2 x1 x2 u
theorem cj_w_substituted_2 {Q1 Q2 Q3 : Int → iST → Prop}  {x1 : Int} {x2 : Int} {u : iST} (hQ : ∀ r0 r1, Q1 r0 r1 → Q2 r0 r1 → Q3 r0 r1) : w_substituted_2 Q1 x1 x2 u → pw_substituted_2 Q2 x1 x2 u → w_substituted_2 Q3 x1 x2 u := by
  intro a b R3 c3
  obtain ⟨R2, c2, b2⟩ := b
  exact a (fun r0 r1 r2 => R2 r0 r1 r2 → R3 r0 r1 r2) (fun r0 r1 r2 a b => c3 r0 r1 r2 (cj_w_substituted_2b (fun r0 r1 r2 a b => a b) hQ a (c2 r0 r1 r2 b))) b2
theorem pw_substituted_2_i  {Q : Int → iST → Prop} {x1 : Int} {x2 : Int} {u : iST} (I : Int → Int → iST → Prop) (s : ∀ (x1 : Int) (x2 : Int) (u : iST), I x1 x2 u → pw_substituted_2b I Q x1 x2 u) (h : I x1 x2 u) : pw_substituted_2 Q x1 x2 u := ⟨I, s, h⟩
theorem mn_w_substituted_2 {Q1 Q2 : Int → iST → Prop}  {x1 : Int} {x2 : Int} {u : iST} (hQ : ∀ r0 r1, Q1 r0 r1 → Q2 r0 r1) : pw_substituted_2 Q1 x1 x2 u → pw_substituted_2 Q2 x1 x2 u := fun ⟨R, s, h⟩ => ⟨R, fun r0 r1 r2 a => mn_w_substituted_2b (fun r0 r1 r2 a => a) hQ (s r0 r1 r2 a), h⟩
theorem un_w_substituted_2  {Q : Int → iST → Prop} {x1 : Int} {x2 : Int} {u : iST} : pw_substituted_2 Q x1 x2 u → pw_substituted_2b (fun x1 x2 u => pw_substituted_2 Q x1 x2 u) Q x1 x2 u := fun ⟨R, s, h⟩ => mn_w_substituted_2b (fun r0 r1 r2 a => ⟨R, s, a⟩) (fun _ _ h => h) (s _ _ _ h)
theorem fo_w_substituted_2  {Q : Int → iST → Prop} {x1 : Int} {x2 : Int} {u : iST} : pw_substituted_2b (fun x1 x2 u => pw_substituted_2 Q x1 x2 u) Q x1 x2 u → pw_substituted_2 Q x1 x2 u := fun h => ⟨fun x1 x2 u => pw_substituted_2b (fun x1 x2 u => pw_substituted_2 Q x1 x2 u) Q x1 x2 u, fun r0 r1 r2 a => mn_w_substituted_2b (fun r0 r1 r2 a => un_w_substituted_2 a) (fun _ _ h => h) a, h⟩
theorem wp_w_substituted_2 {Q1 Q2 : Int → iST → Prop}  {x1 : Int} {x2 : Int} {u : iST} (hQ : ∀ r0 r1, Q1 r0 r1 → Q2 r0 r1) : w_substituted_2 Q1 x1 x2 u → pw_substituted_2 Q2 x1 x2 u := fun a => a (fun x1 x2 u => pw_substituted_2 Q2 x1 x2 u) (fun x1 x2 u b => fo_w_substituted_2 (wp_w_substituted_2b (fun r0 r1 r2 a => a) hQ b))
def pw_substituted (a0 : Int) (Q : Int → iST → Prop) (u : iST) : Prop :=
  pw_substituted_2 Q a0 0 u
theorem cj_w_substituted {Q1 Q2 Q3 : Int → iST → Prop}  {a0 : Int} {u : iST} (hQ : ∀ r0 r1, Q1 r0 r1 → Q2 r0 r1 → Q3 r0 r1) : w_substituted a0 Q1 u → pw_substituted a0 Q2 u → w_substituted a0 Q3 u := (cj_w_substituted_2  hQ)
theorem mn_w_substituted {Q1 Q2 : Int → iST → Prop}  {a0 : Int} {u : iST} (hQ : ∀ r0 r1, Q1 r0 r1 → Q2 r0 r1) : pw_substituted a0 Q1 u → pw_substituted a0 Q2 u := (mn_w_substituted_2  hQ)
theorem wp_w_substituted {Q1 Q2 : Int → iST → Prop}  {a0 : Int} {u : iST} (hQ : ∀ r0 r1, Q1 r0 r1 → Q2 r0 r1) : w_substituted a0 Q1 u → pw_substituted a0 Q2 u := (wp_w_substituted_2  hQ)
def pw_beginInstance_47 (Q : iST → Prop) (y1 : Int) (u : iST) : Prop :=
  pw_build y1 (fun u => 
  Q u) u
theorem cj_w_beginInstance_47 {Q1 Q2 Q3 : iST → Prop}  {y1 : Int} {u : iST} (hQ : ∀ r0, Q1 r0 → Q2 r0 → Q3 r0) : w_beginInstance_47 Q1 y1 u → pw_beginInstance_47 Q2 y1 u → w_beginInstance_47 Q3 y1 u := (cj_w_build (fun _ => (hQ _)))
theorem mn_w_beginInstance_47 {Q1 Q2 : iST → Prop}  {y1 : Int} {u : iST} (hQ : ∀ r0, Q1 r0 → Q2 r0) : pw_beginInstance_47 Q1 y1 u → pw_beginInstance_47 Q2 y1 u := (mn_w_build (fun _ => (hQ _)))
theorem wp_w_beginInstance_47 {Q1 Q2 : iST → Prop}  {y1 : Int} {u : iST} (hQ : ∀ r0, Q1 r0 → Q2 r0) : w_beginInstance_47 Q1 y1 u → pw_beginInstance_47 Q2 y1 u := (wp_w_build (fun _ => (hQ _)))
def pw_beginInstance (a0 : Int) (a1 : Int) (a2 : Int) (Q : iST → Prop) (u : iST) : Prop :=
  br (a0 ≠ a1) (
    pw_isCall a0 (fun v1 u => 
    br (v1 = 0) (
      pw_isVariable a0 (fun v2 u => 
      br (v2 = 0) (
        pw_beginInstance_47 Q a0 u) (
        pw_substituted a0 (fun v4 u => 
        pw_beginInstance_47 Q v4 u) u)) u) (
      pw_openCall a0 (fun u => 
      Q u) u)) u) (
    pw_build a2 (fun u => 
    Q u) u)
theorem cj_w_beginInstance {Q1 Q2 Q3 : iST → Prop}  {a0 : Int} {a1 : Int} {a2 : Int} {u : iST} (hQ : ∀ r0, Q1 r0 → Q2 r0 → Q3 r0) : w_beginInstance a0 a1 a2 Q1 u → pw_beginInstance a0 a1 a2 Q2 u → w_beginInstance a0 a1 a2 Q3 u := (br_cj (cj_w_isCall (fun _ _ => (br_cj (cj_w_isVariable (fun _ _ => (br_cj (cj_w_beginInstance_47  hQ) (cj_w_substituted (fun _ _ => (cj_w_beginInstance_47  hQ)))))) (cj_w_openCall (fun _ => (hQ _)))))) (cj_w_build (fun _ => (hQ _))))
theorem mn_w_beginInstance {Q1 Q2 : iST → Prop}  {a0 : Int} {a1 : Int} {a2 : Int} {u : iST} (hQ : ∀ r0, Q1 r0 → Q2 r0) : pw_beginInstance a0 a1 a2 Q1 u → pw_beginInstance a0 a1 a2 Q2 u := (br_mn (mn_w_isCall (fun _ _ => (br_mn (mn_w_isVariable (fun _ _ => (br_mn (mn_w_beginInstance_47  hQ) (mn_w_substituted (fun _ _ => (mn_w_beginInstance_47  hQ)))))) (mn_w_openCall (fun _ => (hQ _)))))) (mn_w_build (fun _ => (hQ _))))
theorem wp_w_beginInstance {Q1 Q2 : iST → Prop}  {a0 : Int} {a1 : Int} {a2 : Int} {u : iST} (hQ : ∀ r0, Q1 r0 → Q2 r0) : w_beginInstance a0 a1 a2 Q1 u → pw_beginInstance a0 a1 a2 Q2 u := (br_wp (wp_w_isCall (fun _ _ => (br_wp (wp_w_isVariable (fun _ _ => (br_wp (wp_w_beginInstance_47  hQ) (wp_w_substituted (fun _ _ => (wp_w_beginInstance_47  hQ)))))) (wp_w_openCall (fun _ => (hQ _)))))) (wp_w_build (fun _ => (hQ _))))
def pw_anew_172 (Q : Int → iST → Prop) (x5 : Int) (u : iST) : Prop :=
  bdp x5 2400 (rd (u.2.1 70 x5) (fun v7 => 
  Q v7 u))
theorem cj_w_anew_172 {Q1 Q2 Q3 : Int → iST → Prop}  {x5 : Int} {u : iST} (hQ : ∀ r0 r1, Q1 r0 r1 → Q2 r0 r1 → Q3 r0 r1) : w_anew_172 Q1 x5 u → pw_anew_172 Q2 x5 u → w_anew_172 Q3 x5 u := (bd_cj (rd_cj fun _ => (hQ _ _)))
theorem mn_w_anew_172 {Q1 Q2 : Int → iST → Prop}  {x5 : Int} {u : iST} (hQ : ∀ r0 r1, Q1 r0 r1 → Q2 r0 r1) : pw_anew_172 Q1 x5 u → pw_anew_172 Q2 x5 u := (bd_mn (rd_mn fun _ => (hQ _ _)))
theorem wp_w_anew_172 {Q1 Q2 : Int → iST → Prop}  {x5 : Int} {u : iST} (hQ : ∀ r0 r1, Q1 r0 r1 → Q2 r0 r1) : w_anew_172 Q1 x5 u → pw_anew_172 Q2 x5 u := (bd_wp (rd_wp fun _ => (hQ _ _)))
def pw_anew_19b (R19 : Int → Int → Int → Int → iST → Prop) (Q : Int → iST → Prop) (x2 : Int) (x3 : Int) (x4 : Int) (x5 : Int) (u : iST) : Prop :=
  rd (u.1 69) (fun v4 => 
  br (v4 ≤ x4) (
    sw (iI u 71 x5) (fun u => 
    bdp x5 2400 (rd (u.2.1 70 x5) (fun v5 => 
    pw_sizeOf v5 (fun v6 u => 
    br (v6 ≤ 120) (
      pw_anew_172 Q x5 u) (
      pw_fail 4 (fun u => 
      pw_anew_172 Q x5 u) u)) u)))) (
    rd (u.1 69) (fun v9 => 
    ovp (v9 - 1) (
    bdp (v9 - 1) 1200 (rd (u.2.1 67 (v9 - 1)) (fun v11 => 
    br (v11 ≠ 0) (
      bdp (v9 - 1) 1200 (rd (u.2.1 67 (v9 - 1)) (fun v12 => 
      bdp v12 452000 (rd (u.2.1 0 v12) (fun v13 => 
      bdp (v9 - 1) 1200 (rd (u.2.1 67 (v9 - 1)) (fun v14 => 
      bdp v14 452000 (rd (u.2.1 1 v14) (fun v15 => 
      bdp (v9 - 1) 1200 (sw (iA u 67 (v9 - 1) v15) (fun u => 
      pw_beginInstance v13 x2 x3 (fun u => 
      R19 x2 x3 x4 x5 u) u))))))))))) (
      rd (u.1 69) (fun v17 => 
      ovp (v17 - 1) (
      sw (iI u 69 (v17 - 1)) (fun u => 
      bdp (v9 - 1) 1200 (rd (u.2.1 66 (v9 - 1)) (fun v19 => 
      bdp v19 452000 (rd (u.2.1 0 v19) (fun v20 => 
      bdp (v9 - 1) 1200 (rd (u.2.1 68 (v9 - 1)) (fun v21 => 
      pw_callFrom v20 v21 (fun v22 u => 
      bdp (v9 - 1) 1200 (rd (u.2.1 68 (v9 - 1)) (fun v23 => 
      sw (iI u 71 v23) (fun u => 
      pw_build v22 (fun u => 
      R19 x2 x3 x4 x5 u) u)))) u))))))))))))))))
theorem cj_w_anew_19b {Q1 Q2 Q3 : Int → iST → Prop} {R191 R192 R193 : Int → Int → Int → Int → iST → Prop} {x2 : Int} {x3 : Int} {x4 : Int} {x5 : Int} {u : iST} (hR19 : ∀ r0 r1 r2 r3 r4, R191 r0 r1 r2 r3 r4 → R192 r0 r1 r2 r3 r4 → R193 r0 r1 r2 r3 r4) (hQ : ∀ r0 r1, Q1 r0 r1 → Q2 r0 r1 → Q3 r0 r1) : w_anew_19b R191 Q1 x2 x3 x4 x5 u → pw_anew_19b R192 Q2 x2 x3 x4 x5 u → w_anew_19b R193 Q3 x2 x3 x4 x5 u := (rd_cj fun _ => (br_cj (sw_cj fun _ => (bd_cj (rd_cj fun _ => (cj_w_sizeOf (fun _ _ => (br_cj (cj_w_anew_172  hQ) (cj_w_fail (fun _ => (cj_w_anew_172  hQ))))))))) (rd_cj fun _ => (ov_cj (bd_cj (rd_cj fun _ => (br_cj (bd_cj (rd_cj fun _ => (bd_cj (rd_cj fun _ => (bd_cj (rd_cj fun _ => (bd_cj (rd_cj fun _ => (bd_cj (sw_cj fun _ => (cj_w_beginInstance (fun _ => (hR19 _ _ _ _ _))))))))))))) (rd_cj fun _ => (ov_cj (sw_cj fun _ => (bd_cj (rd_cj fun _ => (bd_cj (rd_cj fun _ => (bd_cj (rd_cj fun _ => (cj_w_callFrom (fun _ _ => (bd_cj (rd_cj fun _ => (sw_cj fun _ => (cj_w_build (fun _ => (hR19 _ _ _ _ _))))))))))))))))))))))))
theorem mn_w_anew_19b {Q1 Q2 : Int → iST → Prop} {R191 R192 : Int → Int → Int → Int → iST → Prop} {x2 : Int} {x3 : Int} {x4 : Int} {x5 : Int} {u : iST} (hR19 : ∀ r0 r1 r2 r3 r4, R191 r0 r1 r2 r3 r4 → R192 r0 r1 r2 r3 r4) (hQ : ∀ r0 r1, Q1 r0 r1 → Q2 r0 r1) : pw_anew_19b R191 Q1 x2 x3 x4 x5 u → pw_anew_19b R192 Q2 x2 x3 x4 x5 u := (rd_mn fun _ => (br_mn (sw_mn fun _ => (bd_mn (rd_mn fun _ => (mn_w_sizeOf (fun _ _ => (br_mn (mn_w_anew_172  hQ) (mn_w_fail (fun _ => (mn_w_anew_172  hQ))))))))) (rd_mn fun _ => (ov_mn (bd_mn (rd_mn fun _ => (br_mn (bd_mn (rd_mn fun _ => (bd_mn (rd_mn fun _ => (bd_mn (rd_mn fun _ => (bd_mn (rd_mn fun _ => (bd_mn (sw_mn fun _ => (mn_w_beginInstance (fun _ => (hR19 _ _ _ _ _))))))))))))) (rd_mn fun _ => (ov_mn (sw_mn fun _ => (bd_mn (rd_mn fun _ => (bd_mn (rd_mn fun _ => (bd_mn (rd_mn fun _ => (mn_w_callFrom (fun _ _ => (bd_mn (rd_mn fun _ => (sw_mn fun _ => (mn_w_build (fun _ => (hR19 _ _ _ _ _))))))))))))))))))))))))
theorem wp_w_anew_19b {Q1 Q2 : Int → iST → Prop} {R191 R192 : Int → Int → Int → Int → iST → Prop} {x2 : Int} {x3 : Int} {x4 : Int} {x5 : Int} {u : iST} (hR19 : ∀ r0 r1 r2 r3 r4, R191 r0 r1 r2 r3 r4 → R192 r0 r1 r2 r3 r4) (hQ : ∀ r0 r1, Q1 r0 r1 → Q2 r0 r1) : w_anew_19b R191 Q1 x2 x3 x4 x5 u → pw_anew_19b R192 Q2 x2 x3 x4 x5 u := (rd_wp fun _ => (br_wp (sw_wp fun _ => (bd_wp (rd_wp fun _ => (wp_w_sizeOf (fun _ _ => (br_wp (wp_w_anew_172  hQ) (wp_w_fail (fun _ => (wp_w_anew_172  hQ))))))))) (rd_wp fun _ => (ov_wp (bd_wp (rd_wp fun _ => (br_wp (bd_wp (rd_wp fun _ => (bd_wp (rd_wp fun _ => (bd_wp (rd_wp fun _ => (bd_wp (rd_wp fun _ => (bd_wp (sw_wp fun _ => (wp_w_beginInstance (fun _ => (hR19 _ _ _ _ _))))))))))))) (rd_wp fun _ => (ov_wp (sw_wp fun _ => (bd_wp (rd_wp fun _ => (bd_wp (rd_wp fun _ => (bd_wp (rd_wp fun _ => (wp_w_callFrom (fun _ _ => (bd_wp (rd_wp fun _ => (sw_wp fun _ => (wp_w_build (fun _ => (hR19 _ _ _ _ _))))))))))))))))))))))))
def pw_anew_19 (Q : Int → iST → Prop) (x2 : Int) (x3 : Int) (x4 : Int) (x5 : Int) (u : iST) : Prop := ∃ R19 : Int → Int → Int → Int → iST → Prop, (∀ (x2 : Int) (x3 : Int) (x4 : Int) (x5 : Int) (u : iST), R19 x2 x3 x4 x5 u → pw_anew_19b R19 Q x2 x3 x4 x5 u) ∧ R19 x2 x3 x4 x5 u
theorem cj_w_anew_19 {Q1 Q2 Q3 : Int → iST → Prop}  {x2 : Int} {x3 : Int} {x4 : Int} {x5 : Int} {u : iST} (hQ : ∀ r0 r1, Q1 r0 r1 → Q2 r0 r1 → Q3 r0 r1) : w_anew_19 Q1 x2 x3 x4 x5 u → pw_anew_19 Q2 x2 x3 x4 x5 u → w_anew_19 Q3 x2 x3 x4 x5 u := by
  intro a b R3 c3
  obtain ⟨R2, c2, b2⟩ := b
  exact a (fun r0 r1 r2 r3 r4 => R2 r0 r1 r2 r3 r4 → R3 r0 r1 r2 r3 r4) (fun r0 r1 r2 r3 r4 a b => c3 r0 r1 r2 r3 r4 (cj_w_anew_19b (fun r0 r1 r2 r3 r4 a b => a b) hQ a (c2 r0 r1 r2 r3 r4 b))) b2
theorem pw_anew_19_i  {Q : Int → iST → Prop} {x2 : Int} {x3 : Int} {x4 : Int} {x5 : Int} {u : iST} (I : Int → Int → Int → Int → iST → Prop) (s : ∀ (x2 : Int) (x3 : Int) (x4 : Int) (x5 : Int) (u : iST), I x2 x3 x4 x5 u → pw_anew_19b I Q x2 x3 x4 x5 u) (h : I x2 x3 x4 x5 u) : pw_anew_19 Q x2 x3 x4 x5 u := ⟨I, s, h⟩
theorem mn_w_anew_19 {Q1 Q2 : Int → iST → Prop}  {x2 : Int} {x3 : Int} {x4 : Int} {x5 : Int} {u : iST} (hQ : ∀ r0 r1, Q1 r0 r1 → Q2 r0 r1) : pw_anew_19 Q1 x2 x3 x4 x5 u → pw_anew_19 Q2 x2 x3 x4 x5 u := fun ⟨R, s, h⟩ => ⟨R, fun r0 r1 r2 r3 r4 a => mn_w_anew_19b (fun r0 r1 r2 r3 r4 a => a) hQ (s r0 r1 r2 r3 r4 a), h⟩
theorem un_w_anew_19  {Q : Int → iST → Prop} {x2 : Int} {x3 : Int} {x4 : Int} {x5 : Int} {u : iST} : pw_anew_19 Q x2 x3 x4 x5 u → pw_anew_19b (fun x2 x3 x4 x5 u => pw_anew_19 Q x2 x3 x4 x5 u) Q x2 x3 x4 x5 u := fun ⟨R, s, h⟩ => mn_w_anew_19b (fun r0 r1 r2 r3 r4 a => ⟨R, s, a⟩) (fun _ _ h => h) (s _ _ _ _ _ h)
theorem fo_w_anew_19  {Q : Int → iST → Prop} {x2 : Int} {x3 : Int} {x4 : Int} {x5 : Int} {u : iST} : pw_anew_19b (fun x2 x3 x4 x5 u => pw_anew_19 Q x2 x3 x4 x5 u) Q x2 x3 x4 x5 u → pw_anew_19 Q x2 x3 x4 x5 u := fun h => ⟨fun x2 x3 x4 x5 u => pw_anew_19b (fun x2 x3 x4 x5 u => pw_anew_19 Q x2 x3 x4 x5 u) Q x2 x3 x4 x5 u, fun r0 r1 r2 r3 r4 a => mn_w_anew_19b (fun r0 r1 r2 r3 r4 a => un_w_anew_19 a) (fun _ _ h => h) a, h⟩
theorem wp_w_anew_19 {Q1 Q2 : Int → iST → Prop}  {x2 : Int} {x3 : Int} {x4 : Int} {x5 : Int} {u : iST} (hQ : ∀ r0 r1, Q1 r0 r1 → Q2 r0 r1) : w_anew_19 Q1 x2 x3 x4 x5 u → pw_anew_19 Q2 x2 x3 x4 x5 u := fun a => a (fun x2 x3 x4 x5 u => pw_anew_19 Q2 x2 x3 x4 x5 u) (fun x2 x3 x4 x5 u b => fo_w_anew_19 (wp_w_anew_19b (fun r0 r1 r2 r3 r4 a => a) hQ b))
def pw_anew (a0 : Int) (a1 : Int) (a2 : Int) (Q : Int → iST → Prop) (u : iST) : Prop :=
  rd (u.1 69) (fun v1 => 
  rd (u.1 71) (fun v2 => 
  pw_beginInstance a0 a1 a2 (fun u => 
  pw_anew_19 Q a1 a2 v1 v2 u) u))
theorem cj_w_anew {Q1 Q2 Q3 : Int → iST → Prop}  {a0 : Int} {a1 : Int} {a2 : Int} {u : iST} (hQ : ∀ r0 r1, Q1 r0 r1 → Q2 r0 r1 → Q3 r0 r1) : w_anew a0 a1 a2 Q1 u → pw_anew a0 a1 a2 Q2 u → w_anew a0 a1 a2 Q3 u := (rd_cj fun _ => (rd_cj fun _ => (cj_w_beginInstance (fun _ => (cj_w_anew_19  hQ)))))
theorem mn_w_anew {Q1 Q2 : Int → iST → Prop}  {a0 : Int} {a1 : Int} {a2 : Int} {u : iST} (hQ : ∀ r0 r1, Q1 r0 r1 → Q2 r0 r1) : pw_anew a0 a1 a2 Q1 u → pw_anew a0 a1 a2 Q2 u := (rd_mn fun _ => (rd_mn fun _ => (mn_w_beginInstance (fun _ => (mn_w_anew_19  hQ)))))
theorem wp_w_anew {Q1 Q2 : Int → iST → Prop}  {a0 : Int} {a1 : Int} {a2 : Int} {u : iST} (hQ : ∀ r0 r1, Q1 r0 r1 → Q2 r0 r1) : w_anew a0 a1 a2 Q1 u → pw_anew a0 a1 a2 Q2 u := (rd_wp fun _ => (rd_wp fun _ => (wp_w_beginInstance (fun _ => (wp_w_anew_19  hQ)))))
def pw_instance (a0 : Int) (Q : Int → iST → Prop) (u : iST) : Prop :=
  pw_anew a0 (-1) (-1) (fun v1 u => 
  Q v1 u) u
theorem cj_w_instance {Q1 Q2 Q3 : Int → iST → Prop}  {a0 : Int} {u : iST} (hQ : ∀ r0 r1, Q1 r0 r1 → Q2 r0 r1 → Q3 r0 r1) : w_instance a0 Q1 u → pw_instance a0 Q2 u → w_instance a0 Q3 u := (cj_w_anew (fun _ _ => (hQ _ _)))
theorem mn_w_instance {Q1 Q2 : Int → iST → Prop}  {a0 : Int} {u : iST} (hQ : ∀ r0 r1, Q1 r0 r1 → Q2 r0 r1) : pw_instance a0 Q1 u → pw_instance a0 Q2 u := (mn_w_anew (fun _ _ => (hQ _ _)))
theorem wp_w_instance {Q1 Q2 : Int → iST → Prop}  {a0 : Int} {u : iST} (hQ : ∀ r0 r1, Q1 r0 r1 → Q2 r0 r1) : w_instance a0 Q1 u → pw_instance a0 Q2 u := (wp_w_anew (fun _ _ => (hQ _ _)))
def pw_beginTerm (a0 : Int) (Q : Int → iST → Prop) (u : iST) : Prop :=
  pw_isPair a0 (fun v1 u => 
  br (v1 ≠ 0) (
    bdp a0 452000 (rd (u.2.1 0 a0) (fun v2 => 
    br (v2 ≠ 2) (
      bdp a0 452000 (rd (u.2.1 0 a0) (fun v3 => 
      pw_isSymbol v3 (fun v4 u => 
      br (v4 ≠ 0) (
        bdp a0 452000 (rd (u.2.1 0 a0) (fun v5 => 
        pw_functionOf v5 (fun v6 u => 
        br (v6 = (-1)) (
          ztp 0 (Q 0 u)) (
          bdp a0 452000 (rd (u.2.1 1 a0) (fun v7 => 
          pw_lengthOf v7 (fun v8 u => 
          pw_manyOf v6 (fun v9 u => 
          br (v8 = v9) (
            pw_openCall a0 (fun u => 
            ztp 1 (Q 1 u)) u) (
            ztp 0 (Q 0 u))) u) u)))) u))) (
        ztp 0 (Q 0 u))) u))) (
      pw_isQuoted a0 (fun v11 u => 
      br (v11 ≠ 0) (
        bdp a0 452000 (rd (u.2.1 1 a0) (fun v12 => 
        bdp v12 452000 (rd (u.2.1 0 v12) (fun v13 => 
        pw_constantOf v13 (fun v14 u => 
        pw_build v14 (fun u => 
        ztp 1 (Q 1 u)) u) u))))) (
        ztp 0 (Q 0 u))) u)))) (
    pw_build a0 (fun u => 
    ztp 1 (Q 1 u)) u)) u
theorem cj_w_beginTerm {Q1 Q2 Q3 : Int → iST → Prop}  {a0 : Int} {u : iST} (hQ : ∀ r0 r1, Q1 r0 r1 → Q2 r0 r1 → Q3 r0 r1) : w_beginTerm a0 Q1 u → pw_beginTerm a0 Q2 u → w_beginTerm a0 Q3 u := (cj_w_isPair (fun _ _ => (br_cj (bd_cj (rd_cj fun _ => (br_cj (bd_cj (rd_cj fun _ => (cj_w_isSymbol (fun _ _ => (br_cj (bd_cj (rd_cj fun _ => (cj_w_functionOf (fun _ _ => (br_cj (zt_cj (hQ _ _)) (bd_cj (rd_cj fun _ => (cj_w_lengthOf (fun _ _ => (cj_w_manyOf (fun _ _ => (br_cj (cj_w_openCall (fun _ => (zt_cj (hQ _ _)))) (zt_cj (hQ _ _)))))))))))))) (zt_cj (hQ _ _))))))) (cj_w_isQuoted (fun _ _ => (br_cj (bd_cj (rd_cj fun _ => (bd_cj (rd_cj fun _ => (cj_w_constantOf (fun _ _ => (cj_w_build (fun _ => (zt_cj (hQ _ _)))))))))) (zt_cj (hQ _ _)))))))) (cj_w_build (fun _ => (zt_cj (hQ _ _)))))))
theorem mn_w_beginTerm {Q1 Q2 : Int → iST → Prop}  {a0 : Int} {u : iST} (hQ : ∀ r0 r1, Q1 r0 r1 → Q2 r0 r1) : pw_beginTerm a0 Q1 u → pw_beginTerm a0 Q2 u := (mn_w_isPair (fun _ _ => (br_mn (bd_mn (rd_mn fun _ => (br_mn (bd_mn (rd_mn fun _ => (mn_w_isSymbol (fun _ _ => (br_mn (bd_mn (rd_mn fun _ => (mn_w_functionOf (fun _ _ => (br_mn (zt_mn (hQ _ _)) (bd_mn (rd_mn fun _ => (mn_w_lengthOf (fun _ _ => (mn_w_manyOf (fun _ _ => (br_mn (mn_w_openCall (fun _ => (zt_mn (hQ _ _)))) (zt_mn (hQ _ _)))))))))))))) (zt_mn (hQ _ _))))))) (mn_w_isQuoted (fun _ _ => (br_mn (bd_mn (rd_mn fun _ => (bd_mn (rd_mn fun _ => (mn_w_constantOf (fun _ _ => (mn_w_build (fun _ => (zt_mn (hQ _ _)))))))))) (zt_mn (hQ _ _)))))))) (mn_w_build (fun _ => (zt_mn (hQ _ _)))))))
theorem wp_w_beginTerm {Q1 Q2 : Int → iST → Prop}  {a0 : Int} {u : iST} (hQ : ∀ r0 r1, Q1 r0 r1 → Q2 r0 r1) : w_beginTerm a0 Q1 u → pw_beginTerm a0 Q2 u := (wp_w_isPair (fun _ _ => (br_wp (bd_wp (rd_wp fun _ => (br_wp (bd_wp (rd_wp fun _ => (wp_w_isSymbol (fun _ _ => (br_wp (bd_wp (rd_wp fun _ => (wp_w_functionOf (fun _ _ => (br_wp (zt_wp (hQ _ _)) (bd_wp (rd_wp fun _ => (wp_w_lengthOf (fun _ _ => (wp_w_manyOf (fun _ _ => (br_wp (wp_w_openCall (fun _ => (zt_wp (hQ _ _)))) (zt_wp (hQ _ _)))))))))))))) (zt_wp (hQ _ _))))))) (wp_w_isQuoted (fun _ _ => (br_wp (bd_wp (rd_wp fun _ => (bd_wp (rd_wp fun _ => (wp_w_constantOf (fun _ _ => (wp_w_build (fun _ => (zt_wp (hQ _ _)))))))))) (zt_wp (hQ _ _)))))))) (wp_w_build (fun _ => (zt_wp (hQ _ _)))))))
def pw_termOf_147 (Q : Int → iST → Prop) (x2 : Int) (x3 : Int) (x4 : Int) (u : iST) : Prop :=
  sw (iI u 69 x2) (fun u => 
  sw (iI u 71 x3) (fun u => 
  br (x4 = 0) (
    Q (-1) u) (
    bdp x3 2400 (rd (u.2.1 70 x3) (fun v5 => 
    pw_sizeOf v5 (fun v6 u => 
    br (120 < v6) (
      Q (-1) u) (
      bdp x3 2400 (rd (u.2.1 70 x3) (fun v7 => 
      Q v7 u)))) u)))))
theorem cj_w_termOf_147 {Q1 Q2 Q3 : Int → iST → Prop}  {x2 : Int} {x3 : Int} {x4 : Int} {u : iST} (hQ : ∀ r0 r1, Q1 r0 r1 → Q2 r0 r1 → Q3 r0 r1) : w_termOf_147 Q1 x2 x3 x4 u → pw_termOf_147 Q2 x2 x3 x4 u → w_termOf_147 Q3 x2 x3 x4 u := (sw_cj fun _ => (sw_cj fun _ => (br_cj (hQ _ _) (bd_cj (rd_cj fun _ => (cj_w_sizeOf (fun _ _ => (br_cj (hQ _ _) (bd_cj (rd_cj fun _ => (hQ _ _)))))))))))
theorem mn_w_termOf_147 {Q1 Q2 : Int → iST → Prop}  {x2 : Int} {x3 : Int} {x4 : Int} {u : iST} (hQ : ∀ r0 r1, Q1 r0 r1 → Q2 r0 r1) : pw_termOf_147 Q1 x2 x3 x4 u → pw_termOf_147 Q2 x2 x3 x4 u := (sw_mn fun _ => (sw_mn fun _ => (br_mn (hQ _ _) (bd_mn (rd_mn fun _ => (mn_w_sizeOf (fun _ _ => (br_mn (hQ _ _) (bd_mn (rd_mn fun _ => (hQ _ _)))))))))))
theorem wp_w_termOf_147 {Q1 Q2 : Int → iST → Prop}  {x2 : Int} {x3 : Int} {x4 : Int} {u : iST} (hQ : ∀ r0 r1, Q1 r0 r1 → Q2 r0 r1) : w_termOf_147 Q1 x2 x3 x4 u → pw_termOf_147 Q2 x2 x3 x4 u := (sw_wp fun _ => (sw_wp fun _ => (br_wp (hQ _ _) (bd_wp (rd_wp fun _ => (wp_w_sizeOf (fun _ _ => (br_wp (hQ _ _) (bd_wp (rd_wp fun _ => (hQ _ _)))))))))))
def pw_termOf_17b (R17 : Int → Int → Int → iST → Prop) (Q : Int → iST → Prop) (x2 : Int) (x3 : Int) (x4 : Int) (u : iST) : Prop :=
  rd (u.1 69) (fun v4 => 
  br (v4 ≤ x2) (
    pw_termOf_147 Q x2 x3 x4 u) (
    br (x4 = 0) (
      pw_termOf_147 Q x2 x3 x4 u) (
      rd (u.1 69) (fun v8 => 
      ovp (v8 - 1) (
      bdp (v8 - 1) 1200 (rd (u.2.1 67 (v8 - 1)) (fun v10 => 
      br (v10 ≠ 0) (
        bdp (v8 - 1) 1200 (rd (u.2.1 67 (v8 - 1)) (fun v11 => 
        bdp v11 452000 (rd (u.2.1 0 v11) (fun v12 => 
        bdp (v8 - 1) 1200 (rd (u.2.1 67 (v8 - 1)) (fun v13 => 
        bdp v13 452000 (rd (u.2.1 1 v13) (fun v14 => 
        bdp (v8 - 1) 1200 (sw (iA u 67 (v8 - 1) v14) (fun u => 
        pw_beginTerm v12 (fun v15 u => 
        R17 x2 x3 v15 u) u))))))))))) (
        rd (u.1 69) (fun v16 => 
        ovp (v16 - 1) (
        sw (iI u 69 (v16 - 1)) (fun u => 
        bdp (v8 - 1) 1200 (rd (u.2.1 66 (v8 - 1)) (fun v18 => 
        bdp v18 452000 (rd (u.2.1 0 v18) (fun v19 => 
        bdp (v8 - 1) 1200 (rd (u.2.1 68 (v8 - 1)) (fun v20 => 
        pw_callFrom v19 v20 (fun v21 u => 
        bdp (v8 - 1) 1200 (rd (u.2.1 68 (v8 - 1)) (fun v22 => 
        sw (iI u 71 v22) (fun u => 
        pw_build v21 (fun u => 
        R17 x2 x3 x4 u) u)))) u)))))))))))))))))
theorem cj_w_termOf_17b {Q1 Q2 Q3 : Int → iST → Prop} {R171 R172 R173 : Int → Int → Int → iST → Prop} {x2 : Int} {x3 : Int} {x4 : Int} {u : iST} (hR17 : ∀ r0 r1 r2 r3, R171 r0 r1 r2 r3 → R172 r0 r1 r2 r3 → R173 r0 r1 r2 r3) (hQ : ∀ r0 r1, Q1 r0 r1 → Q2 r0 r1 → Q3 r0 r1) : w_termOf_17b R171 Q1 x2 x3 x4 u → pw_termOf_17b R172 Q2 x2 x3 x4 u → w_termOf_17b R173 Q3 x2 x3 x4 u := (rd_cj fun _ => (br_cj (cj_w_termOf_147  hQ) (br_cj (cj_w_termOf_147  hQ) (rd_cj fun _ => (ov_cj (bd_cj (rd_cj fun _ => (br_cj (bd_cj (rd_cj fun _ => (bd_cj (rd_cj fun _ => (bd_cj (rd_cj fun _ => (bd_cj (rd_cj fun _ => (bd_cj (sw_cj fun _ => (cj_w_beginTerm (fun _ _ => (hR17 _ _ _ _))))))))))))) (rd_cj fun _ => (ov_cj (sw_cj fun _ => (bd_cj (rd_cj fun _ => (bd_cj (rd_cj fun _ => (bd_cj (rd_cj fun _ => (cj_w_callFrom (fun _ _ => (bd_cj (rd_cj fun _ => (sw_cj fun _ => (cj_w_build (fun _ => (hR17 _ _ _ _)))))))))))))))))))))))))
theorem mn_w_termOf_17b {Q1 Q2 : Int → iST → Prop} {R171 R172 : Int → Int → Int → iST → Prop} {x2 : Int} {x3 : Int} {x4 : Int} {u : iST} (hR17 : ∀ r0 r1 r2 r3, R171 r0 r1 r2 r3 → R172 r0 r1 r2 r3) (hQ : ∀ r0 r1, Q1 r0 r1 → Q2 r0 r1) : pw_termOf_17b R171 Q1 x2 x3 x4 u → pw_termOf_17b R172 Q2 x2 x3 x4 u := (rd_mn fun _ => (br_mn (mn_w_termOf_147  hQ) (br_mn (mn_w_termOf_147  hQ) (rd_mn fun _ => (ov_mn (bd_mn (rd_mn fun _ => (br_mn (bd_mn (rd_mn fun _ => (bd_mn (rd_mn fun _ => (bd_mn (rd_mn fun _ => (bd_mn (rd_mn fun _ => (bd_mn (sw_mn fun _ => (mn_w_beginTerm (fun _ _ => (hR17 _ _ _ _))))))))))))) (rd_mn fun _ => (ov_mn (sw_mn fun _ => (bd_mn (rd_mn fun _ => (bd_mn (rd_mn fun _ => (bd_mn (rd_mn fun _ => (mn_w_callFrom (fun _ _ => (bd_mn (rd_mn fun _ => (sw_mn fun _ => (mn_w_build (fun _ => (hR17 _ _ _ _)))))))))))))))))))))))))
theorem wp_w_termOf_17b {Q1 Q2 : Int → iST → Prop} {R171 R172 : Int → Int → Int → iST → Prop} {x2 : Int} {x3 : Int} {x4 : Int} {u : iST} (hR17 : ∀ r0 r1 r2 r3, R171 r0 r1 r2 r3 → R172 r0 r1 r2 r3) (hQ : ∀ r0 r1, Q1 r0 r1 → Q2 r0 r1) : w_termOf_17b R171 Q1 x2 x3 x4 u → pw_termOf_17b R172 Q2 x2 x3 x4 u := (rd_wp fun _ => (br_wp (wp_w_termOf_147  hQ) (br_wp (wp_w_termOf_147  hQ) (rd_wp fun _ => (ov_wp (bd_wp (rd_wp fun _ => (br_wp (bd_wp (rd_wp fun _ => (bd_wp (rd_wp fun _ => (bd_wp (rd_wp fun _ => (bd_wp (rd_wp fun _ => (bd_wp (sw_wp fun _ => (wp_w_beginTerm (fun _ _ => (hR17 _ _ _ _))))))))))))) (rd_wp fun _ => (ov_wp (sw_wp fun _ => (bd_wp (rd_wp fun _ => (bd_wp (rd_wp fun _ => (bd_wp (rd_wp fun _ => (wp_w_callFrom (fun _ _ => (bd_wp (rd_wp fun _ => (sw_wp fun _ => (wp_w_build (fun _ => (hR17 _ _ _ _)))))))))))))))))))))))))
def pw_termOf_17 (Q : Int → iST → Prop) (x2 : Int) (x3 : Int) (x4 : Int) (u : iST) : Prop := ∃ R17 : Int → Int → Int → iST → Prop, (∀ (x2 : Int) (x3 : Int) (x4 : Int) (u : iST), R17 x2 x3 x4 u → pw_termOf_17b R17 Q x2 x3 x4 u) ∧ R17 x2 x3 x4 u
theorem cj_w_termOf_17 {Q1 Q2 Q3 : Int → iST → Prop}  {x2 : Int} {x3 : Int} {x4 : Int} {u : iST} (hQ : ∀ r0 r1, Q1 r0 r1 → Q2 r0 r1 → Q3 r0 r1) : w_termOf_17 Q1 x2 x3 x4 u → pw_termOf_17 Q2 x2 x3 x4 u → w_termOf_17 Q3 x2 x3 x4 u := by
  intro a b R3 c3
  obtain ⟨R2, c2, b2⟩ := b
  exact a (fun r0 r1 r2 r3 => R2 r0 r1 r2 r3 → R3 r0 r1 r2 r3) (fun r0 r1 r2 r3 a b => c3 r0 r1 r2 r3 (cj_w_termOf_17b (fun r0 r1 r2 r3 a b => a b) hQ a (c2 r0 r1 r2 r3 b))) b2
theorem pw_termOf_17_i  {Q : Int → iST → Prop} {x2 : Int} {x3 : Int} {x4 : Int} {u : iST} (I : Int → Int → Int → iST → Prop) (s : ∀ (x2 : Int) (x3 : Int) (x4 : Int) (u : iST), I x2 x3 x4 u → pw_termOf_17b I Q x2 x3 x4 u) (h : I x2 x3 x4 u) : pw_termOf_17 Q x2 x3 x4 u := ⟨I, s, h⟩
theorem mn_w_termOf_17 {Q1 Q2 : Int → iST → Prop}  {x2 : Int} {x3 : Int} {x4 : Int} {u : iST} (hQ : ∀ r0 r1, Q1 r0 r1 → Q2 r0 r1) : pw_termOf_17 Q1 x2 x3 x4 u → pw_termOf_17 Q2 x2 x3 x4 u := fun ⟨R, s, h⟩ => ⟨R, fun r0 r1 r2 r3 a => mn_w_termOf_17b (fun r0 r1 r2 r3 a => a) hQ (s r0 r1 r2 r3 a), h⟩
theorem un_w_termOf_17  {Q : Int → iST → Prop} {x2 : Int} {x3 : Int} {x4 : Int} {u : iST} : pw_termOf_17 Q x2 x3 x4 u → pw_termOf_17b (fun x2 x3 x4 u => pw_termOf_17 Q x2 x3 x4 u) Q x2 x3 x4 u := fun ⟨R, s, h⟩ => mn_w_termOf_17b (fun r0 r1 r2 r3 a => ⟨R, s, a⟩) (fun _ _ h => h) (s _ _ _ _ h)
theorem fo_w_termOf_17  {Q : Int → iST → Prop} {x2 : Int} {x3 : Int} {x4 : Int} {u : iST} : pw_termOf_17b (fun x2 x3 x4 u => pw_termOf_17 Q x2 x3 x4 u) Q x2 x3 x4 u → pw_termOf_17 Q x2 x3 x4 u := fun h => ⟨fun x2 x3 x4 u => pw_termOf_17b (fun x2 x3 x4 u => pw_termOf_17 Q x2 x3 x4 u) Q x2 x3 x4 u, fun r0 r1 r2 r3 a => mn_w_termOf_17b (fun r0 r1 r2 r3 a => un_w_termOf_17 a) (fun _ _ h => h) a, h⟩
theorem wp_w_termOf_17 {Q1 Q2 : Int → iST → Prop}  {x2 : Int} {x3 : Int} {x4 : Int} {u : iST} (hQ : ∀ r0 r1, Q1 r0 r1 → Q2 r0 r1) : w_termOf_17 Q1 x2 x3 x4 u → pw_termOf_17 Q2 x2 x3 x4 u := fun a => a (fun x2 x3 x4 u => pw_termOf_17 Q2 x2 x3 x4 u) (fun x2 x3 x4 u b => fo_w_termOf_17 (wp_w_termOf_17b (fun r0 r1 r2 r3 a => a) hQ b))
def pw_termOf (a0 : Int) (Q : Int → iST → Prop) (u : iST) : Prop :=
  rd (u.1 69) (fun v1 => 
  rd (u.1 71) (fun v2 => 
  pw_beginTerm a0 (fun v3 u => 
  pw_termOf_17 Q v1 v2 v3 u) u))
theorem cj_w_termOf {Q1 Q2 Q3 : Int → iST → Prop}  {a0 : Int} {u : iST} (hQ : ∀ r0 r1, Q1 r0 r1 → Q2 r0 r1 → Q3 r0 r1) : w_termOf a0 Q1 u → pw_termOf a0 Q2 u → w_termOf a0 Q3 u := (rd_cj fun _ => (rd_cj fun _ => (cj_w_beginTerm (fun _ _ => (cj_w_termOf_17  hQ)))))
theorem mn_w_termOf {Q1 Q2 : Int → iST → Prop}  {a0 : Int} {u : iST} (hQ : ∀ r0 r1, Q1 r0 r1 → Q2 r0 r1) : pw_termOf a0 Q1 u → pw_termOf a0 Q2 u := (rd_mn fun _ => (rd_mn fun _ => (mn_w_beginTerm (fun _ _ => (mn_w_termOf_17  hQ)))))
theorem wp_w_termOf {Q1 Q2 : Int → iST → Prop}  {a0 : Int} {u : iST} (hQ : ∀ r0 r1, Q1 r0 r1 → Q2 r0 r1) : w_termOf a0 Q1 u → pw_termOf a0 Q2 u := (rd_wp fun _ => (rd_wp fun _ => (wp_w_beginTerm (fun _ _ => (wp_w_termOf_17  hQ)))))
def pw_made_33 (Q : Int → iST → Prop) (x1 : Int) (x5 : Int) (u : iST) : Prop :=
  pw_callFrom x1 x5 (fun v3 u => 
  sw (iI u 71 x5) (fun u => 
  bdp v3 452000 (rd (u.2.1 3 v3) (fun v4 => 
  br (v4 ≤ 120) (
    Q v3 u) (
    pw_fail 4 (fun u => 
    Q v3 u) u))))) u
theorem cj_w_made_33 {Q1 Q2 Q3 : Int → iST → Prop}  {x1 : Int} {x5 : Int} {u : iST} (hQ : ∀ r0 r1, Q1 r0 r1 → Q2 r0 r1 → Q3 r0 r1) : w_made_33 Q1 x1 x5 u → pw_made_33 Q2 x1 x5 u → w_made_33 Q3 x1 x5 u := (cj_w_callFrom (fun _ _ => (sw_cj fun _ => (bd_cj (rd_cj fun _ => (br_cj (hQ _ _) (cj_w_fail (fun _ => (hQ _ _)))))))))
theorem mn_w_made_33 {Q1 Q2 : Int → iST → Prop}  {x1 : Int} {x5 : Int} {u : iST} (hQ : ∀ r0 r1, Q1 r0 r1 → Q2 r0 r1) : pw_made_33 Q1 x1 x5 u → pw_made_33 Q2 x1 x5 u := (mn_w_callFrom (fun _ _ => (sw_mn fun _ => (bd_mn (rd_mn fun _ => (br_mn (hQ _ _) (mn_w_fail (fun _ => (hQ _ _)))))))))
theorem wp_w_made_33 {Q1 Q2 : Int → iST → Prop}  {x1 : Int} {x5 : Int} {u : iST} (hQ : ∀ r0 r1, Q1 r0 r1 → Q2 r0 r1) : w_made_33 Q1 x1 x5 u → pw_made_33 Q2 x1 x5 u := (wp_w_callFrom (fun _ _ => (sw_wp fun _ => (bd_wp (rd_wp fun _ => (br_wp (hQ _ _) (wp_w_fail (fun _ => (hQ _ _)))))))))
def pw_made_21 (Q : Int → iST → Prop) (x1 : Int) (x4 : Int) (x5 : Int) (u : iST) : Prop :=
  br (x4 = (-1)) (
    pw_made_33 Q x1 x5 u) (
    pw_build x4 (fun u => 
    pw_made_33 Q x1 x5 u) u)
theorem cj_w_made_21 {Q1 Q2 Q3 : Int → iST → Prop}  {x1 : Int} {x4 : Int} {x5 : Int} {u : iST} (hQ : ∀ r0 r1, Q1 r0 r1 → Q2 r0 r1 → Q3 r0 r1) : w_made_21 Q1 x1 x4 x5 u → pw_made_21 Q2 x1 x4 x5 u → w_made_21 Q3 x1 x4 x5 u := (br_cj (cj_w_made_33  hQ) (cj_w_build (fun _ => (cj_w_made_33  hQ))))
theorem mn_w_made_21 {Q1 Q2 : Int → iST → Prop}  {x1 : Int} {x4 : Int} {x5 : Int} {u : iST} (hQ : ∀ r0 r1, Q1 r0 r1 → Q2 r0 r1) : pw_made_21 Q1 x1 x4 x5 u → pw_made_21 Q2 x1 x4 x5 u := (br_mn (mn_w_made_33  hQ) (mn_w_build (fun _ => (mn_w_made_33  hQ))))
theorem wp_w_made_21 {Q1 Q2 : Int → iST → Prop}  {x1 : Int} {x4 : Int} {x5 : Int} {u : iST} (hQ : ∀ r0 r1, Q1 r0 r1 → Q2 r0 r1) : w_made_21 Q1 x1 x4 x5 u → pw_made_21 Q2 x1 x4 x5 u := (br_wp (wp_w_made_33  hQ) (wp_w_build (fun _ => (wp_w_made_33  hQ))))
def pw_made (a0 : Int) (a1 : Int) (a2 : Int) (a3 : Int) (Q : Int → iST → Prop) (u : iST) : Prop :=
  rd (u.1 71) (fun v1 => 
  pw_build a1 (fun u => 
  br (a2 = (-1)) (
    pw_made_21 Q a0 a3 v1 u) (
    pw_build a2 (fun u => 
    pw_made_21 Q a0 a3 v1 u) u)) u)
theorem cj_w_made {Q1 Q2 Q3 : Int → iST → Prop}  {a0 : Int} {a1 : Int} {a2 : Int} {a3 : Int} {u : iST} (hQ : ∀ r0 r1, Q1 r0 r1 → Q2 r0 r1 → Q3 r0 r1) : w_made a0 a1 a2 a3 Q1 u → pw_made a0 a1 a2 a3 Q2 u → w_made a0 a1 a2 a3 Q3 u := (rd_cj fun _ => (cj_w_build (fun _ => (br_cj (cj_w_made_21  hQ) (cj_w_build (fun _ => (cj_w_made_21  hQ)))))))
theorem mn_w_made {Q1 Q2 : Int → iST → Prop}  {a0 : Int} {a1 : Int} {a2 : Int} {a3 : Int} {u : iST} (hQ : ∀ r0 r1, Q1 r0 r1 → Q2 r0 r1) : pw_made a0 a1 a2 a3 Q1 u → pw_made a0 a1 a2 a3 Q2 u := (rd_mn fun _ => (mn_w_build (fun _ => (br_mn (mn_w_made_21  hQ) (mn_w_build (fun _ => (mn_w_made_21  hQ)))))))
theorem wp_w_made {Q1 Q2 : Int → iST → Prop}  {a0 : Int} {a1 : Int} {a2 : Int} {a3 : Int} {u : iST} (hQ : ∀ r0 r1, Q1 r0 r1 → Q2 r0 r1) : w_made a0 a1 a2 a3 Q1 u → pw_made a0 a1 a2 a3 Q2 u := (rd_wp fun _ => (wp_w_build (fun _ => (br_wp (wp_w_made_21  hQ) (wp_w_build (fun _ => (wp_w_made_21  hQ)))))))
def pw_made2 (a0 : Int) (a1 : Int) (a2 : Int) (Q : Int → iST → Prop) (u : iST) : Prop :=
  pw_made a0 a1 a2 (-1) (fun v1 u => 
  Q v1 u) u
theorem cj_w_made2 {Q1 Q2 Q3 : Int → iST → Prop}  {a0 : Int} {a1 : Int} {a2 : Int} {u : iST} (hQ : ∀ r0 r1, Q1 r0 r1 → Q2 r0 r1 → Q3 r0 r1) : w_made2 a0 a1 a2 Q1 u → pw_made2 a0 a1 a2 Q2 u → w_made2 a0 a1 a2 Q3 u := (cj_w_made (fun _ _ => (hQ _ _)))
theorem mn_w_made2 {Q1 Q2 : Int → iST → Prop}  {a0 : Int} {a1 : Int} {a2 : Int} {u : iST} (hQ : ∀ r0 r1, Q1 r0 r1 → Q2 r0 r1) : pw_made2 a0 a1 a2 Q1 u → pw_made2 a0 a1 a2 Q2 u := (mn_w_made (fun _ _ => (hQ _ _)))
theorem wp_w_made2 {Q1 Q2 : Int → iST → Prop}  {a0 : Int} {a1 : Int} {a2 : Int} {u : iST} (hQ : ∀ r0 r1, Q1 r0 r1 → Q2 r0 r1) : w_made2 a0 a1 a2 Q1 u → pw_made2 a0 a1 a2 Q2 u := (wp_w_made (fun _ _ => (hQ _ _)))
def pw_notOf (a0 : Int) (Q : Int → iST → Prop) (u : iST) : Prop :=
  pw_isCallOf a0 15 (fun v1 u => 
  br (v1 = 0) (
    br (a0 ≠ 0) (
      pw_isConstant a0 (fun v2 u => 
      br (v2 = 0) (
        pw_made 15 a0 (-1) (-1) (fun v3 u => 
        Q v3 u) u) (
        Q 0 u)) u) (
      Q 1 u)) (
    bdp a0 452000 (rd (u.2.1 1 a0) (fun v4 => 
    bdp v4 452000 (rd (u.2.1 0 v4) (fun v5 => 
    Q v5 u)))))) u
theorem cj_w_notOf {Q1 Q2 Q3 : Int → iST → Prop}  {a0 : Int} {u : iST} (hQ : ∀ r0 r1, Q1 r0 r1 → Q2 r0 r1 → Q3 r0 r1) : w_notOf a0 Q1 u → pw_notOf a0 Q2 u → w_notOf a0 Q3 u := (cj_w_isCallOf (fun _ _ => (br_cj (br_cj (cj_w_isConstant (fun _ _ => (br_cj (cj_w_made (fun _ _ => (hQ _ _))) (hQ _ _)))) (hQ _ _)) (bd_cj (rd_cj fun _ => (bd_cj (rd_cj fun _ => (hQ _ _))))))))
theorem mn_w_notOf {Q1 Q2 : Int → iST → Prop}  {a0 : Int} {u : iST} (hQ : ∀ r0 r1, Q1 r0 r1 → Q2 r0 r1) : pw_notOf a0 Q1 u → pw_notOf a0 Q2 u := (mn_w_isCallOf (fun _ _ => (br_mn (br_mn (mn_w_isConstant (fun _ _ => (br_mn (mn_w_made (fun _ _ => (hQ _ _))) (hQ _ _)))) (hQ _ _)) (bd_mn (rd_mn fun _ => (bd_mn (rd_mn fun _ => (hQ _ _))))))))
theorem wp_w_notOf {Q1 Q2 : Int → iST → Prop}  {a0 : Int} {u : iST} (hQ : ∀ r0 r1, Q1 r0 r1 → Q2 r0 r1) : w_notOf a0 Q1 u → pw_notOf a0 Q2 u := (wp_w_isCallOf (fun _ _ => (br_wp (br_wp (wp_w_isConstant (fun _ _ => (br_wp (wp_w_made (fun _ _ => (hQ _ _))) (hQ _ _)))) (hQ _ _)) (bd_wp (rd_wp fun _ => (bd_wp (rd_wp fun _ => (hQ _ _))))))))
def pw_isBoolean (a0 : Int) (Q : Int → iST → Prop) (u : iST) : Prop :=
  br (a0 = 1) (
    ztp 1 (Q 1 u)) (
    br (a0 = 0) (
      ztp 1 (Q 1 u)) (
      pw_isCallOf a0 4 (fun v1 u => 
      br (v1 ≠ 0) (
        ztp 1 (Q 1 u)) (
        pw_isCallOf a0 6 (fun v2 u => 
        br (v2 ≠ 0) (
          ztp 1 (Q 1 u)) (
          pw_isCallOf a0 9 (fun v3 u => 
          br (v3 ≠ 0) (
            ztp 1 (Q 1 u)) (
            pw_isCallOf a0 10 (fun v4 u => 
            br (v4 ≠ 0) (
              ztp 1 (Q 1 u)) (
              pw_isCallOf a0 13 (fun v5 u => 
              br (v5 ≠ 0) (
                ztp 1 (Q 1 u)) (
                pw_isCallOf a0 14 (fun v6 u => 
                br (v6 ≠ 0) (
                  ztp 1 (Q 1 u)) (
                  pw_isCallOf a0 15 (fun v7 u => 
                  br (v7 = 0) (
                    ztp 0 (Q 0 u)) (
                    ztp 1 (Q 1 u))) u)) u)) u)) u)) u)) u)) u))
theorem cj_w_isBoolean {Q1 Q2 Q3 : Int → iST → Prop}  {a0 : Int} {u : iST} (hQ : ∀ r0 r1, Q1 r0 r1 → Q2 r0 r1 → Q3 r0 r1) : w_isBoolean a0 Q1 u → pw_isBoolean a0 Q2 u → w_isBoolean a0 Q3 u := (br_cj (zt_cj (hQ _ _)) (br_cj (zt_cj (hQ _ _)) (cj_w_isCallOf (fun _ _ => (br_cj (zt_cj (hQ _ _)) (cj_w_isCallOf (fun _ _ => (br_cj (zt_cj (hQ _ _)) (cj_w_isCallOf (fun _ _ => (br_cj (zt_cj (hQ _ _)) (cj_w_isCallOf (fun _ _ => (br_cj (zt_cj (hQ _ _)) (cj_w_isCallOf (fun _ _ => (br_cj (zt_cj (hQ _ _)) (cj_w_isCallOf (fun _ _ => (br_cj (zt_cj (hQ _ _)) (cj_w_isCallOf (fun _ _ => (br_cj (zt_cj (hQ _ _)) (zt_cj (hQ _ _)))))))))))))))))))))))))
theorem mn_w_isBoolean {Q1 Q2 : Int → iST → Prop}  {a0 : Int} {u : iST} (hQ : ∀ r0 r1, Q1 r0 r1 → Q2 r0 r1) : pw_isBoolean a0 Q1 u → pw_isBoolean a0 Q2 u := (br_mn (zt_mn (hQ _ _)) (br_mn (zt_mn (hQ _ _)) (mn_w_isCallOf (fun _ _ => (br_mn (zt_mn (hQ _ _)) (mn_w_isCallOf (fun _ _ => (br_mn (zt_mn (hQ _ _)) (mn_w_isCallOf (fun _ _ => (br_mn (zt_mn (hQ _ _)) (mn_w_isCallOf (fun _ _ => (br_mn (zt_mn (hQ _ _)) (mn_w_isCallOf (fun _ _ => (br_mn (zt_mn (hQ _ _)) (mn_w_isCallOf (fun _ _ => (br_mn (zt_mn (hQ _ _)) (mn_w_isCallOf (fun _ _ => (br_mn (zt_mn (hQ _ _)) (zt_mn (hQ _ _)))))))))))))))))))))))))
theorem wp_w_isBoolean {Q1 Q2 : Int → iST → Prop}  {a0 : Int} {u : iST} (hQ : ∀ r0 r1, Q1 r0 r1 → Q2 r0 r1) : w_isBoolean a0 Q1 u → pw_isBoolean a0 Q2 u := (br_wp (zt_wp (hQ _ _)) (br_wp (zt_wp (hQ _ _)) (wp_w_isCallOf (fun _ _ => (br_wp (zt_wp (hQ _ _)) (wp_w_isCallOf (fun _ _ => (br_wp (zt_wp (hQ _ _)) (wp_w_isCallOf (fun _ _ => (br_wp (zt_wp (hQ _ _)) (wp_w_isCallOf (fun _ _ => (br_wp (zt_wp (hQ _ _)) (wp_w_isCallOf (fun _ _ => (br_wp (zt_wp (hQ _ _)) (wp_w_isCallOf (fun _ _ => (br_wp (zt_wp (hQ _ _)) (wp_w_isCallOf (fun _ _ => (br_wp (zt_wp (hQ _ _)) (zt_wp (hQ _ _)))))))))))))))))))))))))
def pw_walkTo (a0 : Int) (Q : iST → Prop) (u : iST) : Prop :=
  rd (u.1 76) (fun v1 => 
  bdp v1 400 (sw (iA u 75 v1 a0) (fun u => 
  rd (u.1 76) (fun v2 => 
  ovp (v2 + 1) (
  sw (iI u 76 (v2 + 1)) (fun u => 
  Q u))))))
theorem cj_w_walkTo {Q1 Q2 Q3 : iST → Prop}  {a0 : Int} {u : iST} (hQ : ∀ r0, Q1 r0 → Q2 r0 → Q3 r0) : w_walkTo a0 Q1 u → pw_walkTo a0 Q2 u → w_walkTo a0 Q3 u := (rd_cj fun _ => (bd_cj (sw_cj fun _ => (rd_cj fun _ => (ov_cj (sw_cj fun _ => (hQ _)))))))
theorem mn_w_walkTo {Q1 Q2 : iST → Prop}  {a0 : Int} {u : iST} (hQ : ∀ r0, Q1 r0 → Q2 r0) : pw_walkTo a0 Q1 u → pw_walkTo a0 Q2 u := (rd_mn fun _ => (bd_mn (sw_mn fun _ => (rd_mn fun _ => (ov_mn (sw_mn fun _ => (hQ _)))))))
theorem wp_w_walkTo {Q1 Q2 : iST → Prop}  {a0 : Int} {u : iST} (hQ : ∀ r0, Q1 r0 → Q2 r0) : w_walkTo a0 Q1 u → pw_walkTo a0 Q2 u := (rd_wp fun _ => (bd_wp (sw_wp fun _ => (rd_wp fun _ => (ov_wp (sw_wp fun _ => (hQ _)))))))
def pw_walkOn_43b (R43 : Int → Int → iST → Prop) (Q : Int → iST → Prop) (x1 : Int) (x3 : Int) (u : iST) : Prop :=
  br (x3 < 1) (
    Q x1 u) (
    pw_nth x1 x3 (fun v8 u => 
    pw_walkTo v8 (fun u => 
    ovp (x3 + (-1)) (
    R43 x1 (x3 + (-1)) u)) u) u)
theorem cj_w_walkOn_43b {Q1 Q2 Q3 : Int → iST → Prop} {R431 R432 R433 : Int → Int → iST → Prop} {x1 : Int} {x3 : Int} {u : iST} (hR43 : ∀ r0 r1 r2, R431 r0 r1 r2 → R432 r0 r1 r2 → R433 r0 r1 r2) (hQ : ∀ r0 r1, Q1 r0 r1 → Q2 r0 r1 → Q3 r0 r1) : w_walkOn_43b R431 Q1 x1 x3 u → pw_walkOn_43b R432 Q2 x1 x3 u → w_walkOn_43b R433 Q3 x1 x3 u := (br_cj (hQ _ _) (cj_w_nth (fun _ _ => (cj_w_walkTo (fun _ => (ov_cj (hR43 _ _ _)))))))
theorem mn_w_walkOn_43b {Q1 Q2 : Int → iST → Prop} {R431 R432 : Int → Int → iST → Prop} {x1 : Int} {x3 : Int} {u : iST} (hR43 : ∀ r0 r1 r2, R431 r0 r1 r2 → R432 r0 r1 r2) (hQ : ∀ r0 r1, Q1 r0 r1 → Q2 r0 r1) : pw_walkOn_43b R431 Q1 x1 x3 u → pw_walkOn_43b R432 Q2 x1 x3 u := (br_mn (hQ _ _) (mn_w_nth (fun _ _ => (mn_w_walkTo (fun _ => (ov_mn (hR43 _ _ _)))))))
theorem wp_w_walkOn_43b {Q1 Q2 : Int → iST → Prop} {R431 R432 : Int → Int → iST → Prop} {x1 : Int} {x3 : Int} {u : iST} (hR43 : ∀ r0 r1 r2, R431 r0 r1 r2 → R432 r0 r1 r2) (hQ : ∀ r0 r1, Q1 r0 r1 → Q2 r0 r1) : w_walkOn_43b R431 Q1 x1 x3 u → pw_walkOn_43b R432 Q2 x1 x3 u := (br_wp (hQ _ _) (wp_w_nth (fun _ _ => (wp_w_walkTo (fun _ => (ov_wp (hR43 _ _ _)))))))
def pw_walkOn_43 (Q : Int → iST → Prop) (x1 : Int) (x3 : Int) (u : iST) : Prop := ∃ R43 : Int → Int → iST → Prop, (∀ (x1 : Int) (x3 : Int) (u : iST), R43 x1 x3 u → pw_walkOn_43b R43 Q x1 x3 u) ∧ R43 x1 x3 u
theorem cj_w_walkOn_43 {Q1 Q2 Q3 : Int → iST → Prop}  {x1 : Int} {x3 : Int} {u : iST} (hQ : ∀ r0 r1, Q1 r0 r1 → Q2 r0 r1 → Q3 r0 r1) : w_walkOn_43 Q1 x1 x3 u → pw_walkOn_43 Q2 x1 x3 u → w_walkOn_43 Q3 x1 x3 u := by
  intro a b R3 c3
  obtain ⟨R2, c2, b2⟩ := b
  exact a (fun r0 r1 r2 => R2 r0 r1 r2 → R3 r0 r1 r2) (fun r0 r1 r2 a b => c3 r0 r1 r2 (cj_w_walkOn_43b (fun r0 r1 r2 a b => a b) hQ a (c2 r0 r1 r2 b))) b2
theorem pw_walkOn_43_i  {Q : Int → iST → Prop} {x1 : Int} {x3 : Int} {u : iST} (I : Int → Int → iST → Prop) (s : ∀ (x1 : Int) (x3 : Int) (u : iST), I x1 x3 u → pw_walkOn_43b I Q x1 x3 u) (h : I x1 x3 u) : pw_walkOn_43 Q x1 x3 u := ⟨I, s, h⟩
theorem mn_w_walkOn_43 {Q1 Q2 : Int → iST → Prop}  {x1 : Int} {x3 : Int} {u : iST} (hQ : ∀ r0 r1, Q1 r0 r1 → Q2 r0 r1) : pw_walkOn_43 Q1 x1 x3 u → pw_walkOn_43 Q2 x1 x3 u := fun ⟨R, s, h⟩ => ⟨R, fun r0 r1 r2 a => mn_w_walkOn_43b (fun r0 r1 r2 a => a) hQ (s r0 r1 r2 a), h⟩
theorem un_w_walkOn_43  {Q : Int → iST → Prop} {x1 : Int} {x3 : Int} {u : iST} : pw_walkOn_43 Q x1 x3 u → pw_walkOn_43b (fun x1 x3 u => pw_walkOn_43 Q x1 x3 u) Q x1 x3 u := fun ⟨R, s, h⟩ => mn_w_walkOn_43b (fun r0 r1 r2 a => ⟨R, s, a⟩) (fun _ _ h => h) (s _ _ _ h)
theorem fo_w_walkOn_43  {Q : Int → iST → Prop} {x1 : Int} {x3 : Int} {u : iST} : pw_walkOn_43b (fun x1 x3 u => pw_walkOn_43 Q x1 x3 u) Q x1 x3 u → pw_walkOn_43 Q x1 x3 u := fun h => ⟨fun x1 x3 u => pw_walkOn_43b (fun x1 x3 u => pw_walkOn_43 Q x1 x3 u) Q x1 x3 u, fun r0 r1 r2 a => mn_w_walkOn_43b (fun r0 r1 r2 a => un_w_walkOn_43 a) (fun _ _ h => h) a, h⟩
theorem wp_w_walkOn_43 {Q1 Q2 : Int → iST → Prop}  {x1 : Int} {x3 : Int} {u : iST} (hQ : ∀ r0 r1, Q1 r0 r1 → Q2 r0 r1) : w_walkOn_43 Q1 x1 x3 u → pw_walkOn_43 Q2 x1 x3 u := fun a => a (fun x1 x3 u => pw_walkOn_43 Q2 x1 x3 u) (fun x1 x3 u b => fo_w_walkOn_43 (wp_w_walkOn_43b (fun r0 r1 r2 a => a) hQ b))
