def pw_walkOn (Q : Int → iST → Prop) (u : iST) : Prop :=
  rd (u.1 76) (fun v1 => 
  ovp (v1 - 1) (
  sw (iI u 76 (v1 - 1)) (fun u => 
  rd (u.1 76) (fun v3 => 
  bdp v3 400 (rd (u.2.1 75 v3) (fun v4 => 
  pw_isCall v4 (fun v5 u => 
  br (v5 ≠ 0) (
    bdp v4 452000 (rd (u.2.1 1 v4) (fun v6 => 
    pw_lengthOf v6 (fun v7 u => 
    pw_walkOn_43 Q v4 v7 u) u))) (
    Q v4 u)) u))))))
theorem cj_w_walkOn {Q1 Q2 Q3 : Int → iST → Prop}  {u : iST} (hQ : ∀ r0 r1, Q1 r0 r1 → Q2 r0 r1 → Q3 r0 r1) : w_walkOn Q1 u → pw_walkOn Q2 u → w_walkOn Q3 u := (rd_cj fun _ => (ov_cj (sw_cj fun _ => (rd_cj fun _ => (bd_cj (rd_cj fun _ => (cj_w_isCall (fun _ _ => (br_cj (bd_cj (rd_cj fun _ => (cj_w_lengthOf (fun _ _ => (cj_w_walkOn_43  hQ))))) (hQ _ _))))))))))
theorem mn_w_walkOn {Q1 Q2 : Int → iST → Prop}  {u : iST} (hQ : ∀ r0 r1, Q1 r0 r1 → Q2 r0 r1) : pw_walkOn Q1 u → pw_walkOn Q2 u := (rd_mn fun _ => (ov_mn (sw_mn fun _ => (rd_mn fun _ => (bd_mn (rd_mn fun _ => (mn_w_isCall (fun _ _ => (br_mn (bd_mn (rd_mn fun _ => (mn_w_lengthOf (fun _ _ => (mn_w_walkOn_43  hQ))))) (hQ _ _))))))))))
theorem wp_w_walkOn {Q1 Q2 : Int → iST → Prop}  {u : iST} (hQ : ∀ r0 r1, Q1 r0 r1 → Q2 r0 r1) : w_walkOn Q1 u → pw_walkOn Q2 u := (rd_wp fun _ => (ov_wp (sw_wp fun _ => (rd_wp fun _ => (bd_wp (rd_wp fun _ => (wp_w_isCall (fun _ _ => (br_wp (bd_wp (rd_wp fun _ => (wp_w_lengthOf (fun _ _ => (wp_w_walkOn_43  hQ))))) (hQ _ _))))))))))
def pw_hasCall_10b (R10 : Int → iST → Prop) (Q : Int → iST → Prop) (x2 : Int) (u : iST) : Prop :=
  rd (u.1 76) (fun v2 => 
  br (v2 ≤ 0) (
    ztp 0 (Q 0 u)) (
    pw_walkOn (fun v3 u => 
    pw_isCallOf v3 x2 (fun v4 u => 
    br (v4 = 0) (
      R10 x2 u) (
      ztp 1 (Q 1 u))) u) u))
theorem cj_w_hasCall_10b {Q1 Q2 Q3 : Int → iST → Prop} {R101 R102 R103 : Int → iST → Prop} {x2 : Int} {u : iST} (hR10 : ∀ r0 r1, R101 r0 r1 → R102 r0 r1 → R103 r0 r1) (hQ : ∀ r0 r1, Q1 r0 r1 → Q2 r0 r1 → Q3 r0 r1) : w_hasCall_10b R101 Q1 x2 u → pw_hasCall_10b R102 Q2 x2 u → w_hasCall_10b R103 Q3 x2 u := (rd_cj fun _ => (br_cj (zt_cj (hQ _ _)) (cj_w_walkOn (fun _ _ => (cj_w_isCallOf (fun _ _ => (br_cj (hR10 _ _) (zt_cj (hQ _ _)))))))))
theorem mn_w_hasCall_10b {Q1 Q2 : Int → iST → Prop} {R101 R102 : Int → iST → Prop} {x2 : Int} {u : iST} (hR10 : ∀ r0 r1, R101 r0 r1 → R102 r0 r1) (hQ : ∀ r0 r1, Q1 r0 r1 → Q2 r0 r1) : pw_hasCall_10b R101 Q1 x2 u → pw_hasCall_10b R102 Q2 x2 u := (rd_mn fun _ => (br_mn (zt_mn (hQ _ _)) (mn_w_walkOn (fun _ _ => (mn_w_isCallOf (fun _ _ => (br_mn (hR10 _ _) (zt_mn (hQ _ _)))))))))
theorem wp_w_hasCall_10b {Q1 Q2 : Int → iST → Prop} {R101 R102 : Int → iST → Prop} {x2 : Int} {u : iST} (hR10 : ∀ r0 r1, R101 r0 r1 → R102 r0 r1) (hQ : ∀ r0 r1, Q1 r0 r1 → Q2 r0 r1) : w_hasCall_10b R101 Q1 x2 u → pw_hasCall_10b R102 Q2 x2 u := (rd_wp fun _ => (br_wp (zt_wp (hQ _ _)) (wp_w_walkOn (fun _ _ => (wp_w_isCallOf (fun _ _ => (br_wp (hR10 _ _) (zt_wp (hQ _ _)))))))))
def pw_hasCall_10 (Q : Int → iST → Prop) (x2 : Int) (u : iST) : Prop := ∃ R10 : Int → iST → Prop, (∀ (x2 : Int) (u : iST), R10 x2 u → pw_hasCall_10b R10 Q x2 u) ∧ R10 x2 u
theorem cj_w_hasCall_10 {Q1 Q2 Q3 : Int → iST → Prop}  {x2 : Int} {u : iST} (hQ : ∀ r0 r1, Q1 r0 r1 → Q2 r0 r1 → Q3 r0 r1) : w_hasCall_10 Q1 x2 u → pw_hasCall_10 Q2 x2 u → w_hasCall_10 Q3 x2 u := by
  intro a b R3 c3
  obtain ⟨R2, c2, b2⟩ := b
  exact a (fun r0 r1 => R2 r0 r1 → R3 r0 r1) (fun r0 r1 a b => c3 r0 r1 (cj_w_hasCall_10b (fun r0 r1 a b => a b) hQ a (c2 r0 r1 b))) b2
theorem pw_hasCall_10_i  {Q : Int → iST → Prop} {x2 : Int} {u : iST} (I : Int → iST → Prop) (s : ∀ (x2 : Int) (u : iST), I x2 u → pw_hasCall_10b I Q x2 u) (h : I x2 u) : pw_hasCall_10 Q x2 u := ⟨I, s, h⟩
theorem mn_w_hasCall_10 {Q1 Q2 : Int → iST → Prop}  {x2 : Int} {u : iST} (hQ : ∀ r0 r1, Q1 r0 r1 → Q2 r0 r1) : pw_hasCall_10 Q1 x2 u → pw_hasCall_10 Q2 x2 u := fun ⟨R, s, h⟩ => ⟨R, fun r0 r1 a => mn_w_hasCall_10b (fun r0 r1 a => a) hQ (s r0 r1 a), h⟩
theorem un_w_hasCall_10  {Q : Int → iST → Prop} {x2 : Int} {u : iST} : pw_hasCall_10 Q x2 u → pw_hasCall_10b (fun x2 u => pw_hasCall_10 Q x2 u) Q x2 u := fun ⟨R, s, h⟩ => mn_w_hasCall_10b (fun r0 r1 a => ⟨R, s, a⟩) (fun _ _ h => h) (s _ _ h)
theorem fo_w_hasCall_10  {Q : Int → iST → Prop} {x2 : Int} {u : iST} : pw_hasCall_10b (fun x2 u => pw_hasCall_10 Q x2 u) Q x2 u → pw_hasCall_10 Q x2 u := fun h => ⟨fun x2 u => pw_hasCall_10b (fun x2 u => pw_hasCall_10 Q x2 u) Q x2 u, fun r0 r1 a => mn_w_hasCall_10b (fun r0 r1 a => un_w_hasCall_10 a) (fun _ _ h => h) a, h⟩
theorem wp_w_hasCall_10 {Q1 Q2 : Int → iST → Prop}  {x2 : Int} {u : iST} (hQ : ∀ r0 r1, Q1 r0 r1 → Q2 r0 r1) : w_hasCall_10 Q1 x2 u → pw_hasCall_10 Q2 x2 u := fun a => a (fun x2 u => pw_hasCall_10 Q2 x2 u) (fun x2 u b => fo_w_hasCall_10 (wp_w_hasCall_10b (fun r0 r1 a => a) hQ b))
def pw_hasCall (a0 : Int) (a1 : Int) (Q : Int → iST → Prop) (u : iST) : Prop :=
  sw (iI u 76 0) (fun u => 
  pw_walkTo a0 (fun u => 
  pw_hasCall_10 Q a1 u) u)
theorem cj_w_hasCall {Q1 Q2 Q3 : Int → iST → Prop}  {a0 : Int} {a1 : Int} {u : iST} (hQ : ∀ r0 r1, Q1 r0 r1 → Q2 r0 r1 → Q3 r0 r1) : w_hasCall a0 a1 Q1 u → pw_hasCall a0 a1 Q2 u → w_hasCall a0 a1 Q3 u := (sw_cj fun _ => (cj_w_walkTo (fun _ => (cj_w_hasCall_10  hQ))))
theorem mn_w_hasCall {Q1 Q2 : Int → iST → Prop}  {a0 : Int} {a1 : Int} {u : iST} (hQ : ∀ r0 r1, Q1 r0 r1 → Q2 r0 r1) : pw_hasCall a0 a1 Q1 u → pw_hasCall a0 a1 Q2 u := (sw_mn fun _ => (mn_w_walkTo (fun _ => (mn_w_hasCall_10  hQ))))
theorem wp_w_hasCall {Q1 Q2 : Int → iST → Prop}  {a0 : Int} {a1 : Int} {u : iST} (hQ : ∀ r0 r1, Q1 r0 r1 → Q2 r0 r1) : w_hasCall a0 a1 Q1 u → pw_hasCall a0 a1 Q2 u := (sw_wp fun _ => (wp_w_walkTo (fun _ => (wp_w_hasCall_10  hQ))))
def pw_hasVariable_10b (R10 : Int → iST → Prop) (Q : Int → iST → Prop) (x2 : Int) (u : iST) : Prop :=
  rd (u.1 76) (fun v2 => 
  br (v2 ≤ 0) (
    ztp 0 (Q 0 u)) (
    pw_walkOn (fun v3 u => 
    br (v3 ≠ x2) (
      R10 x2 u) (
      ztp 1 (Q 1 u))) u))
theorem cj_w_hasVariable_10b {Q1 Q2 Q3 : Int → iST → Prop} {R101 R102 R103 : Int → iST → Prop} {x2 : Int} {u : iST} (hR10 : ∀ r0 r1, R101 r0 r1 → R102 r0 r1 → R103 r0 r1) (hQ : ∀ r0 r1, Q1 r0 r1 → Q2 r0 r1 → Q3 r0 r1) : w_hasVariable_10b R101 Q1 x2 u → pw_hasVariable_10b R102 Q2 x2 u → w_hasVariable_10b R103 Q3 x2 u := (rd_cj fun _ => (br_cj (zt_cj (hQ _ _)) (cj_w_walkOn (fun _ _ => (br_cj (hR10 _ _) (zt_cj (hQ _ _)))))))
theorem mn_w_hasVariable_10b {Q1 Q2 : Int → iST → Prop} {R101 R102 : Int → iST → Prop} {x2 : Int} {u : iST} (hR10 : ∀ r0 r1, R101 r0 r1 → R102 r0 r1) (hQ : ∀ r0 r1, Q1 r0 r1 → Q2 r0 r1) : pw_hasVariable_10b R101 Q1 x2 u → pw_hasVariable_10b R102 Q2 x2 u := (rd_mn fun _ => (br_mn (zt_mn (hQ _ _)) (mn_w_walkOn (fun _ _ => (br_mn (hR10 _ _) (zt_mn (hQ _ _)))))))
theorem wp_w_hasVariable_10b {Q1 Q2 : Int → iST → Prop} {R101 R102 : Int → iST → Prop} {x2 : Int} {u : iST} (hR10 : ∀ r0 r1, R101 r0 r1 → R102 r0 r1) (hQ : ∀ r0 r1, Q1 r0 r1 → Q2 r0 r1) : w_hasVariable_10b R101 Q1 x2 u → pw_hasVariable_10b R102 Q2 x2 u := (rd_wp fun _ => (br_wp (zt_wp (hQ _ _)) (wp_w_walkOn (fun _ _ => (br_wp (hR10 _ _) (zt_wp (hQ _ _)))))))
def pw_hasVariable_10 (Q : Int → iST → Prop) (x2 : Int) (u : iST) : Prop := ∃ R10 : Int → iST → Prop, (∀ (x2 : Int) (u : iST), R10 x2 u → pw_hasVariable_10b R10 Q x2 u) ∧ R10 x2 u
theorem cj_w_hasVariable_10 {Q1 Q2 Q3 : Int → iST → Prop}  {x2 : Int} {u : iST} (hQ : ∀ r0 r1, Q1 r0 r1 → Q2 r0 r1 → Q3 r0 r1) : w_hasVariable_10 Q1 x2 u → pw_hasVariable_10 Q2 x2 u → w_hasVariable_10 Q3 x2 u := by
  intro a b R3 c3
  obtain ⟨R2, c2, b2⟩ := b
  exact a (fun r0 r1 => R2 r0 r1 → R3 r0 r1) (fun r0 r1 a b => c3 r0 r1 (cj_w_hasVariable_10b (fun r0 r1 a b => a b) hQ a (c2 r0 r1 b))) b2
theorem pw_hasVariable_10_i  {Q : Int → iST → Prop} {x2 : Int} {u : iST} (I : Int → iST → Prop) (s : ∀ (x2 : Int) (u : iST), I x2 u → pw_hasVariable_10b I Q x2 u) (h : I x2 u) : pw_hasVariable_10 Q x2 u := ⟨I, s, h⟩
theorem mn_w_hasVariable_10 {Q1 Q2 : Int → iST → Prop}  {x2 : Int} {u : iST} (hQ : ∀ r0 r1, Q1 r0 r1 → Q2 r0 r1) : pw_hasVariable_10 Q1 x2 u → pw_hasVariable_10 Q2 x2 u := fun ⟨R, s, h⟩ => ⟨R, fun r0 r1 a => mn_w_hasVariable_10b (fun r0 r1 a => a) hQ (s r0 r1 a), h⟩
theorem un_w_hasVariable_10  {Q : Int → iST → Prop} {x2 : Int} {u : iST} : pw_hasVariable_10 Q x2 u → pw_hasVariable_10b (fun x2 u => pw_hasVariable_10 Q x2 u) Q x2 u := fun ⟨R, s, h⟩ => mn_w_hasVariable_10b (fun r0 r1 a => ⟨R, s, a⟩) (fun _ _ h => h) (s _ _ h)
theorem fo_w_hasVariable_10  {Q : Int → iST → Prop} {x2 : Int} {u : iST} : pw_hasVariable_10b (fun x2 u => pw_hasVariable_10 Q x2 u) Q x2 u → pw_hasVariable_10 Q x2 u := fun h => ⟨fun x2 u => pw_hasVariable_10b (fun x2 u => pw_hasVariable_10 Q x2 u) Q x2 u, fun r0 r1 a => mn_w_hasVariable_10b (fun r0 r1 a => un_w_hasVariable_10 a) (fun _ _ h => h) a, h⟩
theorem wp_w_hasVariable_10 {Q1 Q2 : Int → iST → Prop}  {x2 : Int} {u : iST} (hQ : ∀ r0 r1, Q1 r0 r1 → Q2 r0 r1) : w_hasVariable_10 Q1 x2 u → pw_hasVariable_10 Q2 x2 u := fun a => a (fun x2 u => pw_hasVariable_10 Q2 x2 u) (fun x2 u b => fo_w_hasVariable_10 (wp_w_hasVariable_10b (fun r0 r1 a => a) hQ b))
def pw_hasVariable (a0 : Int) (a1 : Int) (Q : Int → iST → Prop) (u : iST) : Prop :=
  sw (iI u 76 0) (fun u => 
  pw_walkTo a0 (fun u => 
  pw_hasVariable_10 Q a1 u) u)
theorem cj_w_hasVariable {Q1 Q2 Q3 : Int → iST → Prop}  {a0 : Int} {a1 : Int} {u : iST} (hQ : ∀ r0 r1, Q1 r0 r1 → Q2 r0 r1 → Q3 r0 r1) : w_hasVariable a0 a1 Q1 u → pw_hasVariable a0 a1 Q2 u → w_hasVariable a0 a1 Q3 u := (sw_cj fun _ => (cj_w_walkTo (fun _ => (cj_w_hasVariable_10  hQ))))
theorem mn_w_hasVariable {Q1 Q2 : Int → iST → Prop}  {a0 : Int} {a1 : Int} {u : iST} (hQ : ∀ r0 r1, Q1 r0 r1 → Q2 r0 r1) : pw_hasVariable a0 a1 Q1 u → pw_hasVariable a0 a1 Q2 u := (sw_mn fun _ => (mn_w_walkTo (fun _ => (mn_w_hasVariable_10  hQ))))
theorem wp_w_hasVariable {Q1 Q2 : Int → iST → Prop}  {a0 : Int} {a1 : Int} {u : iST} (hQ : ∀ r0 r1, Q1 r0 r1 → Q2 r0 r1) : w_hasVariable a0 a1 Q1 u → pw_hasVariable a0 a1 Q2 u := (sw_wp fun _ => (wp_w_walkTo (fun _ => (wp_w_hasVariable_10  hQ))))
def pw_variablesOf_72 (R15 : iST → Prop) (Q : iST → Prop) (x2 : Int) (x3 : Int) (u : iST) : Prop :=
  br (x3 ≠ 0) (
    rd (u.1 78) (fun v6 => 
    bdp v6 130 (sw (iA u 77 v6 x2) (fun u => 
    rd (u.1 78) (fun v7 => 
    ovp (v7 + 1) (
    sw (iI u 78 (v7 + 1)) (fun u => 
    R15 u))))))) (
    R15 u)
theorem cj_w_variablesOf_72 {Q1 Q2 Q3 : iST → Prop} {R151 R152 R153 : iST → Prop} {x2 : Int} {x3 : Int} {u : iST} (hR15 : ∀ r0, R151 r0 → R152 r0 → R153 r0) (hQ : ∀ r0, Q1 r0 → Q2 r0 → Q3 r0) : w_variablesOf_72 R151 Q1 x2 x3 u → pw_variablesOf_72 R152 Q2 x2 x3 u → w_variablesOf_72 R153 Q3 x2 x3 u := (br_cj (rd_cj fun _ => (bd_cj (sw_cj fun _ => (rd_cj fun _ => (ov_cj (sw_cj fun _ => (hR15 _))))))) (hR15 _))
theorem mn_w_variablesOf_72 {Q1 Q2 : iST → Prop} {R151 R152 : iST → Prop} {x2 : Int} {x3 : Int} {u : iST} (hR15 : ∀ r0, R151 r0 → R152 r0) (hQ : ∀ r0, Q1 r0 → Q2 r0) : pw_variablesOf_72 R151 Q1 x2 x3 u → pw_variablesOf_72 R152 Q2 x2 x3 u := (br_mn (rd_mn fun _ => (bd_mn (sw_mn fun _ => (rd_mn fun _ => (ov_mn (sw_mn fun _ => (hR15 _))))))) (hR15 _))
theorem wp_w_variablesOf_72 {Q1 Q2 : iST → Prop} {R151 R152 : iST → Prop} {x2 : Int} {x3 : Int} {u : iST} (hR15 : ∀ r0, R151 r0 → R152 r0) (hQ : ∀ r0, Q1 r0 → Q2 r0) : w_variablesOf_72 R151 Q1 x2 x3 u → pw_variablesOf_72 R152 Q2 x2 x3 u := (br_wp (rd_wp fun _ => (bd_wp (sw_wp fun _ => (rd_wp fun _ => (ov_wp (sw_wp fun _ => (hR15 _))))))) (hR15 _))
def pw_variablesOf_36b (R15 : iST → Prop) (R36 : Int → Int → Int → iST → Prop) (Q : iST → Prop) (x2 : Int) (x3 : Int) (x4 : Int) (u : iST) : Prop :=
  rd (u.1 78) (fun v5 => 
  br (v5 ≤ x4) (
    pw_variablesOf_72 R15 Q x2 x3 u) (
    br (x3 = 0) (
      pw_variablesOf_72 R15 Q x2 x3 u) (
      bdp x4 130 (rd (u.2.1 77 x4) (fun v9 => 
      br (v9 = x2) (
        ovp (x4 + 1) (
        R36 x2 0 (x4 + 1) u)) (
        ovp (x4 + 1) (
        R36 x2 1 (x4 + 1) u)))))))
theorem cj_w_variablesOf_36b {Q1 Q2 Q3 : iST → Prop} {R151 R152 R153 : iST → Prop} {R361 R362 R363 : Int → Int → Int → iST → Prop} {x2 : Int} {x3 : Int} {x4 : Int} {u : iST} (hR15 : ∀ r0, R151 r0 → R152 r0 → R153 r0) (hR36 : ∀ r0 r1 r2 r3, R361 r0 r1 r2 r3 → R362 r0 r1 r2 r3 → R363 r0 r1 r2 r3) (hQ : ∀ r0, Q1 r0 → Q2 r0 → Q3 r0) : w_variablesOf_36b R151 R361 Q1 x2 x3 x4 u → pw_variablesOf_36b R152 R362 Q2 x2 x3 x4 u → w_variablesOf_36b R153 R363 Q3 x2 x3 x4 u := (rd_cj fun _ => (br_cj (cj_w_variablesOf_72 hR15 hQ) (br_cj (cj_w_variablesOf_72 hR15 hQ) (bd_cj (rd_cj fun _ => (br_cj (ov_cj (hR36 _ _ _ _)) (ov_cj (hR36 _ _ _ _))))))))
theorem mn_w_variablesOf_36b {Q1 Q2 : iST → Prop} {R151 R152 : iST → Prop} {R361 R362 : Int → Int → Int → iST → Prop} {x2 : Int} {x3 : Int} {x4 : Int} {u : iST} (hR15 : ∀ r0, R151 r0 → R152 r0) (hR36 : ∀ r0 r1 r2 r3, R361 r0 r1 r2 r3 → R362 r0 r1 r2 r3) (hQ : ∀ r0, Q1 r0 → Q2 r0) : pw_variablesOf_36b R151 R361 Q1 x2 x3 x4 u → pw_variablesOf_36b R152 R362 Q2 x2 x3 x4 u := (rd_mn fun _ => (br_mn (mn_w_variablesOf_72 hR15 hQ) (br_mn (mn_w_variablesOf_72 hR15 hQ) (bd_mn (rd_mn fun _ => (br_mn (ov_mn (hR36 _ _ _ _)) (ov_mn (hR36 _ _ _ _))))))))
theorem wp_w_variablesOf_36b {Q1 Q2 : iST → Prop} {R151 R152 : iST → Prop} {R361 R362 : Int → Int → Int → iST → Prop} {x2 : Int} {x3 : Int} {x4 : Int} {u : iST} (hR15 : ∀ r0, R151 r0 → R152 r0) (hR36 : ∀ r0 r1 r2 r3, R361 r0 r1 r2 r3 → R362 r0 r1 r2 r3) (hQ : ∀ r0, Q1 r0 → Q2 r0) : w_variablesOf_36b R151 R361 Q1 x2 x3 x4 u → pw_variablesOf_36b R152 R362 Q2 x2 x3 x4 u := (rd_wp fun _ => (br_wp (wp_w_variablesOf_72 hR15 hQ) (br_wp (wp_w_variablesOf_72 hR15 hQ) (bd_wp (rd_wp fun _ => (br_wp (ov_wp (hR36 _ _ _ _)) (ov_wp (hR36 _ _ _ _))))))))
def pw_variablesOf_36 (R15 : iST → Prop) (Q : iST → Prop) (x2 : Int) (x3 : Int) (x4 : Int) (u : iST) : Prop := ∃ R36 : Int → Int → Int → iST → Prop, (∀ (x2 : Int) (x3 : Int) (x4 : Int) (u : iST), R36 x2 x3 x4 u → pw_variablesOf_36b R15 R36 Q x2 x3 x4 u) ∧ R36 x2 x3 x4 u
theorem cj_w_variablesOf_36 {Q1 Q2 Q3 : iST → Prop} {R151 R152 R153 : iST → Prop} {x2 : Int} {x3 : Int} {x4 : Int} {u : iST} (hR15 : ∀ r0, R151 r0 → R152 r0 → R153 r0) (hQ : ∀ r0, Q1 r0 → Q2 r0 → Q3 r0) : w_variablesOf_36 R151 Q1 x2 x3 x4 u → pw_variablesOf_36 R152 Q2 x2 x3 x4 u → w_variablesOf_36 R153 Q3 x2 x3 x4 u := by
  intro a b R3 c3
  obtain ⟨R2, c2, b2⟩ := b
  exact a (fun r0 r1 r2 r3 => R2 r0 r1 r2 r3 → R3 r0 r1 r2 r3) (fun r0 r1 r2 r3 a b => c3 r0 r1 r2 r3 (cj_w_variablesOf_36b hR15 (fun r0 r1 r2 r3 a b => a b) hQ a (c2 r0 r1 r2 r3 b))) b2
theorem pw_variablesOf_36_i {R15 : iST → Prop} {Q : iST → Prop} {x2 : Int} {x3 : Int} {x4 : Int} {u : iST} (I : Int → Int → Int → iST → Prop) (s : ∀ (x2 : Int) (x3 : Int) (x4 : Int) (u : iST), I x2 x3 x4 u → pw_variablesOf_36b R15 I Q x2 x3 x4 u) (h : I x2 x3 x4 u) : pw_variablesOf_36 R15 Q x2 x3 x4 u := ⟨I, s, h⟩
theorem mn_w_variablesOf_36 {Q1 Q2 : iST → Prop} {R151 R152 : iST → Prop} {x2 : Int} {x3 : Int} {x4 : Int} {u : iST} (hR15 : ∀ r0, R151 r0 → R152 r0) (hQ : ∀ r0, Q1 r0 → Q2 r0) : pw_variablesOf_36 R151 Q1 x2 x3 x4 u → pw_variablesOf_36 R152 Q2 x2 x3 x4 u := fun ⟨R, s, h⟩ => ⟨R, fun r0 r1 r2 r3 a => mn_w_variablesOf_36b hR15 (fun r0 r1 r2 r3 a => a) hQ (s r0 r1 r2 r3 a), h⟩
theorem un_w_variablesOf_36 {R15 : iST → Prop} {Q : iST → Prop} {x2 : Int} {x3 : Int} {x4 : Int} {u : iST} : pw_variablesOf_36 R15 Q x2 x3 x4 u → pw_variablesOf_36b R15 (fun x2 x3 x4 u => pw_variablesOf_36 R15 Q x2 x3 x4 u) Q x2 x3 x4 u := fun ⟨R, s, h⟩ => mn_w_variablesOf_36b (fun _ h => h) (fun r0 r1 r2 r3 a => ⟨R, s, a⟩) (fun _ h => h) (s _ _ _ _ h)
theorem fo_w_variablesOf_36 {R15 : iST → Prop} {Q : iST → Prop} {x2 : Int} {x3 : Int} {x4 : Int} {u : iST} : pw_variablesOf_36b R15 (fun x2 x3 x4 u => pw_variablesOf_36 R15 Q x2 x3 x4 u) Q x2 x3 x4 u → pw_variablesOf_36 R15 Q x2 x3 x4 u := fun h => ⟨fun x2 x3 x4 u => pw_variablesOf_36b R15 (fun x2 x3 x4 u => pw_variablesOf_36 R15 Q x2 x3 x4 u) Q x2 x3 x4 u, fun r0 r1 r2 r3 a => mn_w_variablesOf_36b (fun _ h => h) (fun r0 r1 r2 r3 a => un_w_variablesOf_36 a) (fun _ h => h) a, h⟩
theorem wp_w_variablesOf_36 {Q1 Q2 : iST → Prop} {R151 R152 : iST → Prop} {x2 : Int} {x3 : Int} {x4 : Int} {u : iST} (hR15 : ∀ r0, R151 r0 → R152 r0) (hQ : ∀ r0, Q1 r0 → Q2 r0) : w_variablesOf_36 R151 Q1 x2 x3 x4 u → pw_variablesOf_36 R152 Q2 x2 x3 x4 u := fun a => a (fun x2 x3 x4 u => pw_variablesOf_36 R152 Q2 x2 x3 x4 u) (fun x2 x3 x4 u b => fo_w_variablesOf_36 (wp_w_variablesOf_36b hR15 (fun r0 r1 r2 r3 a => a) hQ b))
def pw_variablesOf_15b (R15 : iST → Prop) (Q : iST → Prop) (u : iST) : Prop :=
  rd (u.1 76) (fun v2 => 
  br (v2 ≤ 0) (
    Q u) (
    pw_walkOn (fun v3 u => 
    pw_isVariable v3 (fun v4 u => 
    pw_variablesOf_36 R15 Q v3 v4 0 u) u) u))
theorem cj_w_variablesOf_15b {Q1 Q2 Q3 : iST → Prop} {R151 R152 R153 : iST → Prop} {u : iST} (hR15 : ∀ r0, R151 r0 → R152 r0 → R153 r0) (hQ : ∀ r0, Q1 r0 → Q2 r0 → Q3 r0) : w_variablesOf_15b R151 Q1 u → pw_variablesOf_15b R152 Q2 u → w_variablesOf_15b R153 Q3 u := (rd_cj fun _ => (br_cj (hQ _) (cj_w_walkOn (fun _ _ => (cj_w_isVariable (fun _ _ => (cj_w_variablesOf_36 hR15 hQ)))))))
theorem mn_w_variablesOf_15b {Q1 Q2 : iST → Prop} {R151 R152 : iST → Prop} {u : iST} (hR15 : ∀ r0, R151 r0 → R152 r0) (hQ : ∀ r0, Q1 r0 → Q2 r0) : pw_variablesOf_15b R151 Q1 u → pw_variablesOf_15b R152 Q2 u := (rd_mn fun _ => (br_mn (hQ _) (mn_w_walkOn (fun _ _ => (mn_w_isVariable (fun _ _ => (mn_w_variablesOf_36 hR15 hQ)))))))
theorem wp_w_variablesOf_15b {Q1 Q2 : iST → Prop} {R151 R152 : iST → Prop} {u : iST} (hR15 : ∀ r0, R151 r0 → R152 r0) (hQ : ∀ r0, Q1 r0 → Q2 r0) : w_variablesOf_15b R151 Q1 u → pw_variablesOf_15b R152 Q2 u := (rd_wp fun _ => (br_wp (hQ _) (wp_w_walkOn (fun _ _ => (wp_w_isVariable (fun _ _ => (wp_w_variablesOf_36 hR15 hQ)))))))
def pw_variablesOf_15 (Q : iST → Prop) (u : iST) : Prop := ∃ R15 : iST → Prop, (∀ (u : iST), R15 u → pw_variablesOf_15b R15 Q u) ∧ R15 u
theorem cj_w_variablesOf_15 {Q1 Q2 Q3 : iST → Prop}  {u : iST} (hQ : ∀ r0, Q1 r0 → Q2 r0 → Q3 r0) : w_variablesOf_15 Q1 u → pw_variablesOf_15 Q2 u → w_variablesOf_15 Q3 u := by
  intro a b R3 c3
  obtain ⟨R2, c2, b2⟩ := b
  exact a (fun r0 => R2 r0 → R3 r0) (fun r0 a b => c3 r0 (cj_w_variablesOf_15b (fun r0 a b => a b) hQ a (c2 r0 b))) b2
theorem pw_variablesOf_15_i  {Q : iST → Prop} {u : iST} (I : iST → Prop) (s : ∀ (u : iST), I u → pw_variablesOf_15b I Q u) (h : I u) : pw_variablesOf_15 Q u := ⟨I, s, h⟩
theorem mn_w_variablesOf_15 {Q1 Q2 : iST → Prop}  {u : iST} (hQ : ∀ r0, Q1 r0 → Q2 r0) : pw_variablesOf_15 Q1 u → pw_variablesOf_15 Q2 u := fun ⟨R, s, h⟩ => ⟨R, fun r0 a => mn_w_variablesOf_15b (fun r0 a => a) hQ (s r0 a), h⟩
theorem un_w_variablesOf_15  {Q : iST → Prop} {u : iST} : pw_variablesOf_15 Q u → pw_variablesOf_15b (fun u => pw_variablesOf_15 Q u) Q u := fun ⟨R, s, h⟩ => mn_w_variablesOf_15b (fun r0 a => ⟨R, s, a⟩) (fun _ h => h) (s _ h)
theorem fo_w_variablesOf_15  {Q : iST → Prop} {u : iST} : pw_variablesOf_15b (fun u => pw_variablesOf_15 Q u) Q u → pw_variablesOf_15 Q u := fun h => ⟨fun u => pw_variablesOf_15b (fun u => pw_variablesOf_15 Q u) Q u, fun r0 a => mn_w_variablesOf_15b (fun r0 a => un_w_variablesOf_15 a) (fun _ h => h) a, h⟩
theorem wp_w_variablesOf_15 {Q1 Q2 : iST → Prop}  {u : iST} (hQ : ∀ r0, Q1 r0 → Q2 r0) : w_variablesOf_15 Q1 u → pw_variablesOf_15 Q2 u := fun a => a (fun u => pw_variablesOf_15 Q2 u) (fun u b => fo_w_variablesOf_15 (wp_w_variablesOf_15b (fun r0 a => a) hQ b))
def pw_variablesOf (a0 : Int) (Q : iST → Prop) (u : iST) : Prop :=
  sw (iI u 78 0) (fun u => 
  sw (iI u 76 0) (fun u => 
  pw_walkTo a0 (fun u => 
  pw_variablesOf_15 Q u) u))
theorem cj_w_variablesOf {Q1 Q2 Q3 : iST → Prop}  {a0 : Int} {u : iST} (hQ : ∀ r0, Q1 r0 → Q2 r0 → Q3 r0) : w_variablesOf a0 Q1 u → pw_variablesOf a0 Q2 u → w_variablesOf a0 Q3 u := (sw_cj fun _ => (sw_cj fun _ => (cj_w_walkTo (fun _ => (cj_w_variablesOf_15  hQ)))))
theorem mn_w_variablesOf {Q1 Q2 : iST → Prop}  {a0 : Int} {u : iST} (hQ : ∀ r0, Q1 r0 → Q2 r0) : pw_variablesOf a0 Q1 u → pw_variablesOf a0 Q2 u := (sw_mn fun _ => (sw_mn fun _ => (mn_w_walkTo (fun _ => (mn_w_variablesOf_15  hQ)))))
theorem wp_w_variablesOf {Q1 Q2 : iST → Prop}  {a0 : Int} {u : iST} (hQ : ∀ r0, Q1 r0 → Q2 r0) : w_variablesOf a0 Q1 u → pw_variablesOf a0 Q2 u := (sw_wp fun _ => (sw_wp fun _ => (wp_w_walkTo (fun _ => (wp_w_variablesOf_15  hQ)))))
def pw_isStep (Q : Int → iST → Prop) (u : iST) : Prop :=
  rd (u.1 60) (fun v1 => 
  rd (u.1 59) (fun v2 => 
  br (v1 ≠ v2) (
    rd (u.1 60) (fun v3 => 
    ovp (v3 + 1) (
    sw (iI u 60 (v3 + 1)) (fun u => 
    ztp 1 (Q 1 u))))) (
    pw_fail 1 (fun u => 
    ztp 0 (Q 0 u)) u)))
theorem cj_w_isStep {Q1 Q2 Q3 : Int → iST → Prop}  {u : iST} (hQ : ∀ r0 r1, Q1 r0 r1 → Q2 r0 r1 → Q3 r0 r1) : w_isStep Q1 u → pw_isStep Q2 u → w_isStep Q3 u := (rd_cj fun _ => (rd_cj fun _ => (br_cj (rd_cj fun _ => (ov_cj (sw_cj fun _ => (zt_cj (hQ _ _))))) (cj_w_fail (fun _ => (zt_cj (hQ _ _)))))))
theorem mn_w_isStep {Q1 Q2 : Int → iST → Prop}  {u : iST} (hQ : ∀ r0 r1, Q1 r0 r1 → Q2 r0 r1) : pw_isStep Q1 u → pw_isStep Q2 u := (rd_mn fun _ => (rd_mn fun _ => (br_mn (rd_mn fun _ => (ov_mn (sw_mn fun _ => (zt_mn (hQ _ _))))) (mn_w_fail (fun _ => (zt_mn (hQ _ _)))))))
theorem wp_w_isStep {Q1 Q2 : Int → iST → Prop}  {u : iST} (hQ : ∀ r0 r1, Q1 r0 r1 → Q2 r0 r1) : w_isStep Q1 u → pw_isStep Q2 u := (rd_wp fun _ => (rd_wp fun _ => (br_wp (rd_wp fun _ => (ov_wp (sw_wp fun _ => (zt_wp (hQ _ _))))) (wp_w_fail (fun _ => (zt_wp (hQ _ _)))))))
def pw_beginEval_109 (Q : iST → Prop) (x1 : Int) (x2 : Int) (x3 : Int) (u : iST) : Prop :=
  rd (u.1 60) (fun v4 => 
  rd (u.1 59) (fun v5 => 
  br (v4 ≠ v5) (
    rd (u.1 60) (fun v6 => 
    ovp (v6 + 1) (
    sw (iI u 60 (v6 + 1)) (fun u => 
    rd (u.1 88) (fun v8 => 
    ovp (v8 - 1) (
    sw (iI u 88 (v8 - 1)) (fun u => 
    rd (u.1 85) (fun v10 => 
    bdp v10 300 (sw (iA u 79 v10 x1) (fun u => 
    rd (u.1 85) (fun v11 => 
    bdp x1 452000 (rd (u.2.1 1 x1) (fun v12 => 
    bdp v11 300 (sw (iA u 80 v11 v12) (fun u => 
    rd (u.1 85) (fun v13 => 
    rd (u.1 87) (fun v14 => 
    bdp v13 300 (sw (iA u 81 v13 v14) (fun u => 
    rd (u.1 85) (fun v15 => 
    bdp v15 300 (sw (iA u 82 v15 x2) (fun u => 
    rd (u.1 85) (fun v16 => 
    bdp v16 300 (sw (iA u 83 v16 x3) (fun u => 
    rd (u.1 85) (fun v17 => 
    ztp 0 (bdp v17 300 (sw (iA u 84 v17 0) (fun u => 
    rd (u.1 85) (fun v18 => 
    ovp (v18 + 1) (
    sw (iI u 85 (v18 + 1)) (fun u => 
    Q u)))))))))))))))))))))))))))))))) (
    sw (iI u 89 1) (fun u => 
    Q u))))
theorem cj_w_beginEval_109 {Q1 Q2 Q3 : iST → Prop}  {x1 : Int} {x2 : Int} {x3 : Int} {u : iST} (hQ : ∀ r0, Q1 r0 → Q2 r0 → Q3 r0) : w_beginEval_109 Q1 x1 x2 x3 u → pw_beginEval_109 Q2 x1 x2 x3 u → w_beginEval_109 Q3 x1 x2 x3 u := (rd_cj fun _ => (rd_cj fun _ => (br_cj (rd_cj fun _ => (ov_cj (sw_cj fun _ => (rd_cj fun _ => (ov_cj (sw_cj fun _ => (rd_cj fun _ => (bd_cj (sw_cj fun _ => (rd_cj fun _ => (bd_cj (rd_cj fun _ => (bd_cj (sw_cj fun _ => (rd_cj fun _ => (rd_cj fun _ => (bd_cj (sw_cj fun _ => (rd_cj fun _ => (bd_cj (sw_cj fun _ => (rd_cj fun _ => (bd_cj (sw_cj fun _ => (rd_cj fun _ => (zt_cj (bd_cj (sw_cj fun _ => (rd_cj fun _ => (ov_cj (sw_cj fun _ => (hQ _)))))))))))))))))))))))))))))))) (sw_cj fun _ => (hQ _)))))
theorem mn_w_beginEval_109 {Q1 Q2 : iST → Prop}  {x1 : Int} {x2 : Int} {x3 : Int} {u : iST} (hQ : ∀ r0, Q1 r0 → Q2 r0) : pw_beginEval_109 Q1 x1 x2 x3 u → pw_beginEval_109 Q2 x1 x2 x3 u := (rd_mn fun _ => (rd_mn fun _ => (br_mn (rd_mn fun _ => (ov_mn (sw_mn fun _ => (rd_mn fun _ => (ov_mn (sw_mn fun _ => (rd_mn fun _ => (bd_mn (sw_mn fun _ => (rd_mn fun _ => (bd_mn (rd_mn fun _ => (bd_mn (sw_mn fun _ => (rd_mn fun _ => (rd_mn fun _ => (bd_mn (sw_mn fun _ => (rd_mn fun _ => (bd_mn (sw_mn fun _ => (rd_mn fun _ => (bd_mn (sw_mn fun _ => (rd_mn fun _ => (zt_mn (bd_mn (sw_mn fun _ => (rd_mn fun _ => (ov_mn (sw_mn fun _ => (hQ _)))))))))))))))))))))))))))))))) (sw_mn fun _ => (hQ _)))))
theorem wp_w_beginEval_109 {Q1 Q2 : iST → Prop}  {x1 : Int} {x2 : Int} {x3 : Int} {u : iST} (hQ : ∀ r0, Q1 r0 → Q2 r0) : w_beginEval_109 Q1 x1 x2 x3 u → pw_beginEval_109 Q2 x1 x2 x3 u := (rd_wp fun _ => (rd_wp fun _ => (br_wp (rd_wp fun _ => (ov_wp (sw_wp fun _ => (rd_wp fun _ => (ov_wp (sw_wp fun _ => (rd_wp fun _ => (bd_wp (sw_wp fun _ => (rd_wp fun _ => (bd_wp (rd_wp fun _ => (bd_wp (sw_wp fun _ => (rd_wp fun _ => (rd_wp fun _ => (bd_wp (sw_wp fun _ => (rd_wp fun _ => (bd_wp (sw_wp fun _ => (rd_wp fun _ => (bd_wp (sw_wp fun _ => (rd_wp fun _ => (zt_wp (bd_wp (sw_wp fun _ => (rd_wp fun _ => (ov_wp (sw_wp fun _ => (hQ _)))))))))))))))))))))))))))))))) (sw_wp fun _ => (hQ _)))))
def pw_beginEval_34b (R34 : Int → Int → Int → Int → iST → Prop) (Q : iST → Prop) (x1 : Int) (x2 : Int) (x3 : Int) (x5 : Int) (u : iST) : Prop :=
  ovp (6 * x2) (
  ovp ((6 * x2) + x5) (
  bdp ((6 * x2) + x5) 240 (rd (u.2.1 38 ((6 * x2) + x5)) (fun v23 => 
  br (v23 = x1) (
    ovp (x3 + x5) (
    bdp (x3 + x5) 2400 (rd (u.2.1 86 (x3 + x5)) (fun v25 => 
    sw (iI u 91 v25) (fun u => 
    Q u))))) (
    ovp (x5 + 1) (
    R34 x1 x2 x3 (x5 + 1) u))))))
theorem cj_w_beginEval_34b {Q1 Q2 Q3 : iST → Prop} {R341 R342 R343 : Int → Int → Int → Int → iST → Prop} {x1 : Int} {x2 : Int} {x3 : Int} {x5 : Int} {u : iST} (hR34 : ∀ r0 r1 r2 r3 r4, R341 r0 r1 r2 r3 r4 → R342 r0 r1 r2 r3 r4 → R343 r0 r1 r2 r3 r4) (hQ : ∀ r0, Q1 r0 → Q2 r0 → Q3 r0) : w_beginEval_34b R341 Q1 x1 x2 x3 x5 u → pw_beginEval_34b R342 Q2 x1 x2 x3 x5 u → w_beginEval_34b R343 Q3 x1 x2 x3 x5 u := (ov_cj (ov_cj (bd_cj (rd_cj fun _ => (br_cj (ov_cj (bd_cj (rd_cj fun _ => (sw_cj fun _ => (hQ _))))) (ov_cj (hR34 _ _ _ _ _)))))))
theorem mn_w_beginEval_34b {Q1 Q2 : iST → Prop} {R341 R342 : Int → Int → Int → Int → iST → Prop} {x1 : Int} {x2 : Int} {x3 : Int} {x5 : Int} {u : iST} (hR34 : ∀ r0 r1 r2 r3 r4, R341 r0 r1 r2 r3 r4 → R342 r0 r1 r2 r3 r4) (hQ : ∀ r0, Q1 r0 → Q2 r0) : pw_beginEval_34b R341 Q1 x1 x2 x3 x5 u → pw_beginEval_34b R342 Q2 x1 x2 x3 x5 u := (ov_mn (ov_mn (bd_mn (rd_mn fun _ => (br_mn (ov_mn (bd_mn (rd_mn fun _ => (sw_mn fun _ => (hQ _))))) (ov_mn (hR34 _ _ _ _ _)))))))
theorem wp_w_beginEval_34b {Q1 Q2 : iST → Prop} {R341 R342 : Int → Int → Int → Int → iST → Prop} {x1 : Int} {x2 : Int} {x3 : Int} {x5 : Int} {u : iST} (hR34 : ∀ r0 r1 r2 r3 r4, R341 r0 r1 r2 r3 r4 → R342 r0 r1 r2 r3 r4) (hQ : ∀ r0, Q1 r0 → Q2 r0) : w_beginEval_34b R341 Q1 x1 x2 x3 x5 u → pw_beginEval_34b R342 Q2 x1 x2 x3 x5 u := (ov_wp (ov_wp (bd_wp (rd_wp fun _ => (br_wp (ov_wp (bd_wp (rd_wp fun _ => (sw_wp fun _ => (hQ _))))) (ov_wp (hR34 _ _ _ _ _)))))))
def pw_beginEval_34 (Q : iST → Prop) (x1 : Int) (x2 : Int) (x3 : Int) (x5 : Int) (u : iST) : Prop := ∃ R34 : Int → Int → Int → Int → iST → Prop, (∀ (x1 : Int) (x2 : Int) (x3 : Int) (x5 : Int) (u : iST), R34 x1 x2 x3 x5 u → pw_beginEval_34b R34 Q x1 x2 x3 x5 u) ∧ R34 x1 x2 x3 x5 u
theorem cj_w_beginEval_34 {Q1 Q2 Q3 : iST → Prop}  {x1 : Int} {x2 : Int} {x3 : Int} {x5 : Int} {u : iST} (hQ : ∀ r0, Q1 r0 → Q2 r0 → Q3 r0) : w_beginEval_34 Q1 x1 x2 x3 x5 u → pw_beginEval_34 Q2 x1 x2 x3 x5 u → w_beginEval_34 Q3 x1 x2 x3 x5 u := by
  intro a b R3 c3
  obtain ⟨R2, c2, b2⟩ := b
  exact a (fun r0 r1 r2 r3 r4 => R2 r0 r1 r2 r3 r4 → R3 r0 r1 r2 r3 r4) (fun r0 r1 r2 r3 r4 a b => c3 r0 r1 r2 r3 r4 (cj_w_beginEval_34b (fun r0 r1 r2 r3 r4 a b => a b) hQ a (c2 r0 r1 r2 r3 r4 b))) b2
theorem pw_beginEval_34_i  {Q : iST → Prop} {x1 : Int} {x2 : Int} {x3 : Int} {x5 : Int} {u : iST} (I : Int → Int → Int → Int → iST → Prop) (s : ∀ (x1 : Int) (x2 : Int) (x3 : Int) (x5 : Int) (u : iST), I x1 x2 x3 x5 u → pw_beginEval_34b I Q x1 x2 x3 x5 u) (h : I x1 x2 x3 x5 u) : pw_beginEval_34 Q x1 x2 x3 x5 u := ⟨I, s, h⟩
theorem mn_w_beginEval_34 {Q1 Q2 : iST → Prop}  {x1 : Int} {x2 : Int} {x3 : Int} {x5 : Int} {u : iST} (hQ : ∀ r0, Q1 r0 → Q2 r0) : pw_beginEval_34 Q1 x1 x2 x3 x5 u → pw_beginEval_34 Q2 x1 x2 x3 x5 u := fun ⟨R, s, h⟩ => ⟨R, fun r0 r1 r2 r3 r4 a => mn_w_beginEval_34b (fun r0 r1 r2 r3 r4 a => a) hQ (s r0 r1 r2 r3 r4 a), h⟩
theorem un_w_beginEval_34  {Q : iST → Prop} {x1 : Int} {x2 : Int} {x3 : Int} {x5 : Int} {u : iST} : pw_beginEval_34 Q x1 x2 x3 x5 u → pw_beginEval_34b (fun x1 x2 x3 x5 u => pw_beginEval_34 Q x1 x2 x3 x5 u) Q x1 x2 x3 x5 u := fun ⟨R, s, h⟩ => mn_w_beginEval_34b (fun r0 r1 r2 r3 r4 a => ⟨R, s, a⟩) (fun _ h => h) (s _ _ _ _ _ h)
theorem fo_w_beginEval_34  {Q : iST → Prop} {x1 : Int} {x2 : Int} {x3 : Int} {x5 : Int} {u : iST} : pw_beginEval_34b (fun x1 x2 x3 x5 u => pw_beginEval_34 Q x1 x2 x3 x5 u) Q x1 x2 x3 x5 u → pw_beginEval_34 Q x1 x2 x3 x5 u := fun h => ⟨fun x1 x2 x3 x5 u => pw_beginEval_34b (fun x1 x2 x3 x5 u => pw_beginEval_34 Q x1 x2 x3 x5 u) Q x1 x2 x3 x5 u, fun r0 r1 r2 r3 r4 a => mn_w_beginEval_34b (fun r0 r1 r2 r3 r4 a => un_w_beginEval_34 a) (fun _ h => h) a, h⟩
theorem wp_w_beginEval_34 {Q1 Q2 : iST → Prop}  {x1 : Int} {x2 : Int} {x3 : Int} {x5 : Int} {u : iST} (hQ : ∀ r0, Q1 r0 → Q2 r0) : w_beginEval_34 Q1 x1 x2 x3 x5 u → pw_beginEval_34 Q2 x1 x2 x3 x5 u := fun a => a (fun x1 x2 x3 x5 u => pw_beginEval_34 Q2 x1 x2 x3 x5 u) (fun x1 x2 x3 x5 u b => fo_w_beginEval_34 (wp_w_beginEval_34b (fun r0 r1 r2 r3 r4 a => a) hQ b))
def pw_beginEval (a0 : Int) (a1 : Int) (a2 : Int) (a3 : Int) (Q : iST → Prop) (u : iST) : Prop :=
  ztp 1 (sw (iI u 90 1) (fun u => 
  pw_isConstant a0 (fun v1 u => 
  br (v1 = 0) (
    pw_isPair a0 (fun v2 u => 
    br (v2 ≠ 0) (
      ztp 0 (sw (iI u 90 0) (fun u => 
      rd (u.1 85) (fun v3 => 
      br (v3 ≠ 300) (
        br (a3 = 0) (
          pw_beginEval_109 Q a0 a1 a2 u) (
          rd (u.1 88) (fun v20 => 
          br (v20 ≠ 0) (
            pw_beginEval_109 Q a0 a1 a2 u) (
            sw (iI u 89 (-1)) (fun u => 
            Q u))))) (
        sw (iI u 89 2) (fun u => 
        Q u)))))) (
      pw_beginEval_34 Q a0 a1 a2 0 u)) u) (
    pw_valueOf a0 (fun v27 u => 
    sw (iI u 91 v27) (fun u => 
    Q u)) u)) u))
theorem cj_w_beginEval {Q1 Q2 Q3 : iST → Prop}  {a0 : Int} {a1 : Int} {a2 : Int} {a3 : Int} {u : iST} (hQ : ∀ r0, Q1 r0 → Q2 r0 → Q3 r0) : w_beginEval a0 a1 a2 a3 Q1 u → pw_beginEval a0 a1 a2 a3 Q2 u → w_beginEval a0 a1 a2 a3 Q3 u := (zt_cj (sw_cj fun _ => (cj_w_isConstant (fun _ _ => (br_cj (cj_w_isPair (fun _ _ => (br_cj (zt_cj (sw_cj fun _ => (rd_cj fun _ => (br_cj (br_cj (cj_w_beginEval_109  hQ) (rd_cj fun _ => (br_cj (cj_w_beginEval_109  hQ) (sw_cj fun _ => (hQ _))))) (sw_cj fun _ => (hQ _)))))) (cj_w_beginEval_34  hQ)))) (cj_w_valueOf (fun _ _ => (sw_cj fun _ => (hQ _)))))))))
theorem mn_w_beginEval {Q1 Q2 : iST → Prop}  {a0 : Int} {a1 : Int} {a2 : Int} {a3 : Int} {u : iST} (hQ : ∀ r0, Q1 r0 → Q2 r0) : pw_beginEval a0 a1 a2 a3 Q1 u → pw_beginEval a0 a1 a2 a3 Q2 u := (zt_mn (sw_mn fun _ => (mn_w_isConstant (fun _ _ => (br_mn (mn_w_isPair (fun _ _ => (br_mn (zt_mn (sw_mn fun _ => (rd_mn fun _ => (br_mn (br_mn (mn_w_beginEval_109  hQ) (rd_mn fun _ => (br_mn (mn_w_beginEval_109  hQ) (sw_mn fun _ => (hQ _))))) (sw_mn fun _ => (hQ _)))))) (mn_w_beginEval_34  hQ)))) (mn_w_valueOf (fun _ _ => (sw_mn fun _ => (hQ _)))))))))
theorem wp_w_beginEval {Q1 Q2 : iST → Prop}  {a0 : Int} {a1 : Int} {a2 : Int} {a3 : Int} {u : iST} (hQ : ∀ r0, Q1 r0 → Q2 r0) : w_beginEval a0 a1 a2 a3 Q1 u → pw_beginEval a0 a1 a2 a3 Q2 u := (zt_wp (sw_wp fun _ => (wp_w_isConstant (fun _ _ => (br_wp (wp_w_isPair (fun _ _ => (br_wp (zt_wp (sw_wp fun _ => (rd_wp fun _ => (br_wp (br_wp (wp_w_beginEval_109  hQ) (rd_wp fun _ => (br_wp (wp_w_beginEval_109  hQ) (sw_wp fun _ => (hQ _))))) (sw_wp fun _ => (hQ _)))))) (wp_w_beginEval_34  hQ)))) (wp_w_valueOf (fun _ _ => (sw_wp fun _ => (hQ _)))))))))
def pw_numberOf (a0 : Int) (Q : Int → iST → Prop) (u : iST) : Prop :=
  pw_isNatural a0 (fun v1 u => 
  br (v1 = 0) (
    Q 0 u) (
    pw_value a0 (fun v2 u => 
    Q v2 u) u)) u
theorem cj_w_numberOf {Q1 Q2 Q3 : Int → iST → Prop}  {a0 : Int} {u : iST} (hQ : ∀ r0 r1, Q1 r0 r1 → Q2 r0 r1 → Q3 r0 r1) : w_numberOf a0 Q1 u → pw_numberOf a0 Q2 u → w_numberOf a0 Q3 u := (cj_w_isNatural (fun _ _ => (br_cj (hQ _ _) (cj_w_value (fun _ _ => (hQ _ _))))))
theorem mn_w_numberOf {Q1 Q2 : Int → iST → Prop}  {a0 : Int} {u : iST} (hQ : ∀ r0 r1, Q1 r0 r1 → Q2 r0 r1) : pw_numberOf a0 Q1 u → pw_numberOf a0 Q2 u := (mn_w_isNatural (fun _ _ => (br_mn (hQ _ _) (mn_w_value (fun _ _ => (hQ _ _))))))
theorem wp_w_numberOf {Q1 Q2 : Int → iST → Prop}  {a0 : Int} {u : iST} (hQ : ∀ r0 r1, Q1 r0 r1 → Q2 r0 r1) : w_numberOf a0 Q1 u → pw_numberOf a0 Q2 u := (wp_w_isNatural (fun _ _ => (br_wp (hQ _ _) (wp_w_value (fun _ _ => (hQ _ _))))))
def pw_truth (a0 : Int) (Q : Int → iST → Prop) (u : iST) : Prop :=
  br (a0 = 0) (
    Q 0 u) (
    Q 1 u)
theorem cj_w_truth {Q1 Q2 Q3 : Int → iST → Prop}  {a0 : Int} {u : iST} (hQ : ∀ r0 r1, Q1 r0 r1 → Q2 r0 r1 → Q3 r0 r1) : w_truth a0 Q1 u → pw_truth a0 Q2 u → w_truth a0 Q3 u := (br_cj (hQ _ _) (hQ _ _))
theorem mn_w_truth {Q1 Q2 : Int → iST → Prop}  {a0 : Int} {u : iST} (hQ : ∀ r0 r1, Q1 r0 r1 → Q2 r0 r1) : pw_truth a0 Q1 u → pw_truth a0 Q2 u := (br_mn (hQ _ _) (hQ _ _))
theorem wp_w_truth {Q1 Q2 : Int → iST → Prop}  {a0 : Int} {u : iST} (hQ : ∀ r0 r1, Q1 r0 r1 → Q2 r0 r1) : w_truth a0 Q1 u → pw_truth a0 Q2 u := (br_wp (hQ _ _) (hQ _ _))
def pw_basic_95 (Q : Int → iST → Prop) (y0 : Int) (u : iST) : Prop :=
  pw_truth y0 (fun v4 u => 
  Q v4 u) u
theorem cj_w_basic_95 {Q1 Q2 Q3 : Int → iST → Prop}  {y0 : Int} {u : iST} (hQ : ∀ r0 r1, Q1 r0 r1 → Q2 r0 r1 → Q3 r0 r1) : w_basic_95 Q1 y0 u → pw_basic_95 Q2 y0 u → w_basic_95 Q3 y0 u := (cj_w_truth (fun _ _ => (hQ _ _)))
theorem mn_w_basic_95 {Q1 Q2 : Int → iST → Prop}  {y0 : Int} {u : iST} (hQ : ∀ r0 r1, Q1 r0 r1 → Q2 r0 r1) : pw_basic_95 Q1 y0 u → pw_basic_95 Q2 y0 u := (mn_w_truth (fun _ _ => (hQ _ _)))
theorem wp_w_basic_95 {Q1 Q2 : Int → iST → Prop}  {y0 : Int} {u : iST} (hQ : ∀ r0 r1, Q1 r0 r1 → Q2 r0 r1) : w_basic_95 Q1 y0 u → pw_basic_95 Q2 y0 u := (wp_w_truth (fun _ _ => (hQ _ _)))
def pw_basic_121 (Q : Int → iST → Prop) (y0 : Int) (u : iST) : Prop :=
  pw_truth y0 (fun v8 u => 
  Q v8 u) u
theorem cj_w_basic_121 {Q1 Q2 Q3 : Int → iST → Prop}  {y0 : Int} {u : iST} (hQ : ∀ r0 r1, Q1 r0 r1 → Q2 r0 r1 → Q3 r0 r1) : w_basic_121 Q1 y0 u → pw_basic_121 Q2 y0 u → w_basic_121 Q3 y0 u := (cj_w_truth (fun _ _ => (hQ _ _)))
theorem mn_w_basic_121 {Q1 Q2 : Int → iST → Prop}  {y0 : Int} {u : iST} (hQ : ∀ r0 r1, Q1 r0 r1 → Q2 r0 r1) : pw_basic_121 Q1 y0 u → pw_basic_121 Q2 y0 u := (mn_w_truth (fun _ _ => (hQ _ _)))
theorem wp_w_basic_121 {Q1 Q2 : Int → iST → Prop}  {y0 : Int} {u : iST} (hQ : ∀ r0 r1, Q1 r0 r1 → Q2 r0 r1) : w_basic_121 Q1 y0 u → pw_basic_121 Q2 y0 u := (wp_w_truth (fun _ _ => (hQ _ _)))
def pw_basic_116 (Q : Int → iST → Prop) (u : iST) : Prop :=
  pw_basic_121 Q 1 u
theorem cj_w_basic_116 {Q1 Q2 Q3 : Int → iST → Prop}  {u : iST} (hQ : ∀ r0 r1, Q1 r0 r1 → Q2 r0 r1 → Q3 r0 r1) : w_basic_116 Q1 u → pw_basic_116 Q2 u → w_basic_116 Q3 u := (cj_w_basic_121  hQ)
theorem mn_w_basic_116 {Q1 Q2 : Int → iST → Prop}  {u : iST} (hQ : ∀ r0 r1, Q1 r0 r1 → Q2 r0 r1) : pw_basic_116 Q1 u → pw_basic_116 Q2 u := (mn_w_basic_121  hQ)
theorem wp_w_basic_116 {Q1 Q2 : Int → iST → Prop}  {u : iST} (hQ : ∀ r0 r1, Q1 r0 r1 → Q2 r0 r1) : w_basic_116 Q1 u → pw_basic_116 Q2 u := (wp_w_basic_121  hQ)
def pw_basic_197 (Q : Int → iST → Prop) (y1 : Int) (u : iST) : Prop :=
  pw_natural y1 (fun v20 u => 
  Q v20 u) u
theorem cj_w_basic_197 {Q1 Q2 Q3 : Int → iST → Prop}  {y1 : Int} {u : iST} (hQ : ∀ r0 r1, Q1 r0 r1 → Q2 r0 r1 → Q3 r0 r1) : w_basic_197 Q1 y1 u → pw_basic_197 Q2 y1 u → w_basic_197 Q3 y1 u := (cj_w_natural (fun _ _ => (hQ _ _)))
theorem mn_w_basic_197 {Q1 Q2 : Int → iST → Prop}  {y1 : Int} {u : iST} (hQ : ∀ r0 r1, Q1 r0 r1 → Q2 r0 r1) : pw_basic_197 Q1 y1 u → pw_basic_197 Q2 y1 u := (mn_w_natural (fun _ _ => (hQ _ _)))
theorem wp_w_basic_197 {Q1 Q2 : Int → iST → Prop}  {y1 : Int} {u : iST} (hQ : ∀ r0 r1, Q1 r0 r1 → Q2 r0 r1) : w_basic_197 Q1 y1 u → pw_basic_197 Q2 y1 u := (wp_w_natural (fun _ _ => (hQ _ _)))
def pw_basic_221 (Q : Int → iST → Prop) (y0 : Int) (u : iST) : Prop :=
  pw_truth y0 (fun v27 u => 
  Q v27 u) u
theorem cj_w_basic_221 {Q1 Q2 Q3 : Int → iST → Prop}  {y0 : Int} {u : iST} (hQ : ∀ r0 r1, Q1 r0 r1 → Q2 r0 r1 → Q3 r0 r1) : w_basic_221 Q1 y0 u → pw_basic_221 Q2 y0 u → w_basic_221 Q3 y0 u := (cj_w_truth (fun _ _ => (hQ _ _)))
theorem mn_w_basic_221 {Q1 Q2 : Int → iST → Prop}  {y0 : Int} {u : iST} (hQ : ∀ r0 r1, Q1 r0 r1 → Q2 r0 r1) : pw_basic_221 Q1 y0 u → pw_basic_221 Q2 y0 u := (mn_w_truth (fun _ _ => (hQ _ _)))
theorem wp_w_basic_221 {Q1 Q2 : Int → iST → Prop}  {y0 : Int} {u : iST} (hQ : ∀ r0 r1, Q1 r0 r1 → Q2 r0 r1) : w_basic_221 Q1 y0 u → pw_basic_221 Q2 y0 u := (wp_w_truth (fun _ _ => (hQ _ _)))
def pw_basic_311 (Q : Int → iST → Prop) (y0 : Int) (u : iST) : Prop :=
  pw_truth y0 (fun v44 u => 
  Q v44 u) u
theorem cj_w_basic_311 {Q1 Q2 Q3 : Int → iST → Prop}  {y0 : Int} {u : iST} (hQ : ∀ r0 r1, Q1 r0 r1 → Q2 r0 r1 → Q3 r0 r1) : w_basic_311 Q1 y0 u → pw_basic_311 Q2 y0 u → w_basic_311 Q3 y0 u := (cj_w_truth (fun _ _ => (hQ _ _)))
theorem mn_w_basic_311 {Q1 Q2 : Int → iST → Prop}  {y0 : Int} {u : iST} (hQ : ∀ r0 r1, Q1 r0 r1 → Q2 r0 r1) : pw_basic_311 Q1 y0 u → pw_basic_311 Q2 y0 u := (mn_w_truth (fun _ _ => (hQ _ _)))
theorem wp_w_basic_311 {Q1 Q2 : Int → iST → Prop}  {y0 : Int} {u : iST} (hQ : ∀ r0 r1, Q1 r0 r1 → Q2 r0 r1) : w_basic_311 Q1 y0 u → pw_basic_311 Q2 y0 u := (wp_w_truth (fun _ _ => (hQ _ _)))
def pw_basic (a0 : Int) (a1 : Int) (Q : Int → iST → Prop) (u : iST) : Prop :=
  bdp a1 2400 (rd (u.2.1 86 a1) (fun v1 => 
  ovp (a1 + 1) (
  bdp (a1 + 1) 2400 (rd (u.2.1 86 (a1 + 1)) (fun v3 => 
  br (a0 = 4) (
    br (v1 ≠ v3) (
      pw_basic_95 Q 0 u) (
      pw_basic_95 Q 1 u)) (
  br (a0 = 5) (
    pw_pair v1 v3 (fun v6 u => 
    Q v6 u) u) (
  br (a0 = 6) (
    br (v1 = 0) (
      pw_basic_116 Q u) (
      br (v3 = 0) (
        pw_basic_121 Q 0 u) (
        pw_basic_116 Q u))) (
  br (a0 = 7) (
    pw_numberOf v1 (fun v10 u => 
    pw_numberOf v3 (fun v11 u => 
    olp (4611686018427387903 - v11) (
    br (v10 ≤ (4611686018427387903 - v11)) (
      pw_numberOf v1 (fun v13 u => 
      pw_numberOf v3 (fun v14 u => 
      olp (v13 + v14) (
      pw_natural (v13 + v14) (fun v16 u => 
      Q v16 u) u)) u) u) (
      Q (-1) u))) u) u) (
  br (a0 = 8) (
    pw_numberOf v1 (fun v18 u => 
    pw_numberOf v3 (fun v19 u => 
    br (v18 ≤ v19) (
      pw_basic_197 Q 0 u) (
      pw_numberOf v1 (fun v21 u => 
      pw_numberOf v3 (fun v22 u => 
      olp (v21 - v22) (
      pw_basic_197 Q (v21 - v22) u)) u) u)) u) u) (
  br (a0 = 9) (
    pw_numberOf v1 (fun v25 u => 
    pw_numberOf v3 (fun v26 u => 
    br (v26 ≤ v25) (
      pw_basic_221 Q 0 u) (
      pw_basic_221 Q 1 u)) u) u) (
  br (a0 = 10) (
    pw_isPair v1 (fun v29 u => 
    pw_truth v29 (fun v30 u => 
    Q v30 u) u) u) (
  br (a0 = 11) (
    pw_isPair v1 (fun v32 u => 
    br (v32 = 0) (
      Q 0 u) (
      bdp v1 452000 (rd (u.2.1 0 v1) (fun v33 => 
      Q v33 u)))) u) (
  br (a0 = 12) (
    pw_isPair v1 (fun v35 u => 
    br (v35 = 0) (
      Q 0 u) (
      bdp v1 452000 (rd (u.2.1 1 v1) (fun v36 => 
      Q v36 u)))) u) (
  br (a0 = 13) (
    pw_isNatural v1 (fun v38 u => 
    pw_truth v38 (fun v39 u => 
    Q v39 u) u) u) (
  br (a0 = 14) (
    pw_isSymbol v1 (fun v41 u => 
    pw_truth v41 (fun v42 u => 
    Q v42 u) u) u) (
  br (a0 = 15) (
    br (v1 ≠ 0) (
      pw_basic_311 Q 0 u) (
      pw_basic_311 Q 1 u)) (
  br (a0 = 16) (
    bdp v1 452000 (rd (u.2.1 4 v1) (fun v46 => 
    pw_natural v46 (fun v48 u => 
    Q v48 u) u))) (
  br (v1 ≠ 0) (
    pw_basic_311 Q 0 u) (
    pw_basic_311 Q 1 u)))))))))))))))))))
theorem cj_w_basic {Q1 Q2 Q3 : Int → iST → Prop}  {a0 : Int} {a1 : Int} {u : iST} (hQ : ∀ r0 r1, Q1 r0 r1 → Q2 r0 r1 → Q3 r0 r1) : w_basic a0 a1 Q1 u → pw_basic a0 a1 Q2 u → w_basic a0 a1 Q3 u := (bd_cj (rd_cj fun _ => (ov_cj (bd_cj (rd_cj fun _ => (br_cj (br_cj (cj_w_basic_95  hQ) (cj_w_basic_95  hQ)) (br_cj (cj_w_pair (fun _ _ => (hQ _ _))) (br_cj (br_cj (cj_w_basic_116  hQ) (br_cj (cj_w_basic_121  hQ) (cj_w_basic_116  hQ))) (br_cj (cj_w_numberOf (fun _ _ => (cj_w_numberOf (fun _ _ => (ol_cj (br_cj (cj_w_numberOf (fun _ _ => (cj_w_numberOf (fun _ _ => (ol_cj (cj_w_natural (fun _ _ => (hQ _ _)))))))) (hQ _ _))))))) (br_cj (cj_w_numberOf (fun _ _ => (cj_w_numberOf (fun _ _ => (br_cj (cj_w_basic_197  hQ) (cj_w_numberOf (fun _ _ => (cj_w_numberOf (fun _ _ => (ol_cj (cj_w_basic_197  hQ))))))))))) (br_cj (cj_w_numberOf (fun _ _ => (cj_w_numberOf (fun _ _ => (br_cj (cj_w_basic_221  hQ) (cj_w_basic_221  hQ)))))) (br_cj (cj_w_isPair (fun _ _ => (cj_w_truth (fun _ _ => (hQ _ _))))) (br_cj (cj_w_isPair (fun _ _ => (br_cj (hQ _ _) (bd_cj (rd_cj fun _ => (hQ _ _)))))) (br_cj (cj_w_isPair (fun _ _ => (br_cj (hQ _ _) (bd_cj (rd_cj fun _ => (hQ _ _)))))) (br_cj (cj_w_isNatural (fun _ _ => (cj_w_truth (fun _ _ => (hQ _ _))))) (br_cj (cj_w_isSymbol (fun _ _ => (cj_w_truth (fun _ _ => (hQ _ _))))) (br_cj (br_cj (cj_w_basic_311  hQ) (cj_w_basic_311  hQ)) (br_cj (bd_cj (rd_cj fun _ => (cj_w_natural (fun _ _ => (hQ _ _))))) (br_cj (cj_w_basic_311  hQ) (cj_w_basic_311  hQ))))))))))))))))))))
theorem mn_w_basic {Q1 Q2 : Int → iST → Prop}  {a0 : Int} {a1 : Int} {u : iST} (hQ : ∀ r0 r1, Q1 r0 r1 → Q2 r0 r1) : pw_basic a0 a1 Q1 u → pw_basic a0 a1 Q2 u := (bd_mn (rd_mn fun _ => (ov_mn (bd_mn (rd_mn fun _ => (br_mn (br_mn (mn_w_basic_95  hQ) (mn_w_basic_95  hQ)) (br_mn (mn_w_pair (fun _ _ => (hQ _ _))) (br_mn (br_mn (mn_w_basic_116  hQ) (br_mn (mn_w_basic_121  hQ) (mn_w_basic_116  hQ))) (br_mn (mn_w_numberOf (fun _ _ => (mn_w_numberOf (fun _ _ => (ol_mn (br_mn (mn_w_numberOf (fun _ _ => (mn_w_numberOf (fun _ _ => (ol_mn (mn_w_natural (fun _ _ => (hQ _ _)))))))) (hQ _ _))))))) (br_mn (mn_w_numberOf (fun _ _ => (mn_w_numberOf (fun _ _ => (br_mn (mn_w_basic_197  hQ) (mn_w_numberOf (fun _ _ => (mn_w_numberOf (fun _ _ => (ol_mn (mn_w_basic_197  hQ))))))))))) (br_mn (mn_w_numberOf (fun _ _ => (mn_w_numberOf (fun _ _ => (br_mn (mn_w_basic_221  hQ) (mn_w_basic_221  hQ)))))) (br_mn (mn_w_isPair (fun _ _ => (mn_w_truth (fun _ _ => (hQ _ _))))) (br_mn (mn_w_isPair (fun _ _ => (br_mn (hQ _ _) (bd_mn (rd_mn fun _ => (hQ _ _)))))) (br_mn (mn_w_isPair (fun _ _ => (br_mn (hQ _ _) (bd_mn (rd_mn fun _ => (hQ _ _)))))) (br_mn (mn_w_isNatural (fun _ _ => (mn_w_truth (fun _ _ => (hQ _ _))))) (br_mn (mn_w_isSymbol (fun _ _ => (mn_w_truth (fun _ _ => (hQ _ _))))) (br_mn (br_mn (mn_w_basic_311  hQ) (mn_w_basic_311  hQ)) (br_mn (bd_mn (rd_mn fun _ => (mn_w_natural (fun _ _ => (hQ _ _))))) (br_mn (mn_w_basic_311  hQ) (mn_w_basic_311  hQ))))))))))))))))))))
theorem wp_w_basic {Q1 Q2 : Int → iST → Prop}  {a0 : Int} {a1 : Int} {u : iST} (hQ : ∀ r0 r1, Q1 r0 r1 → Q2 r0 r1) : w_basic a0 a1 Q1 u → pw_basic a0 a1 Q2 u := (bd_wp (rd_wp fun _ => (ov_wp (bd_wp (rd_wp fun _ => (br_wp (br_wp (wp_w_basic_95  hQ) (wp_w_basic_95  hQ)) (br_wp (wp_w_pair (fun _ _ => (hQ _ _))) (br_wp (br_wp (wp_w_basic_116  hQ) (br_wp (wp_w_basic_121  hQ) (wp_w_basic_116  hQ))) (br_wp (wp_w_numberOf (fun _ _ => (wp_w_numberOf (fun _ _ => (ol_wp (br_wp (wp_w_numberOf (fun _ _ => (wp_w_numberOf (fun _ _ => (ol_wp (wp_w_natural (fun _ _ => (hQ _ _)))))))) (hQ _ _))))))) (br_wp (wp_w_numberOf (fun _ _ => (wp_w_numberOf (fun _ _ => (br_wp (wp_w_basic_197  hQ) (wp_w_numberOf (fun _ _ => (wp_w_numberOf (fun _ _ => (ol_wp (wp_w_basic_197  hQ))))))))))) (br_wp (wp_w_numberOf (fun _ _ => (wp_w_numberOf (fun _ _ => (br_wp (wp_w_basic_221  hQ) (wp_w_basic_221  hQ)))))) (br_wp (wp_w_isPair (fun _ _ => (wp_w_truth (fun _ _ => (hQ _ _))))) (br_wp (wp_w_isPair (fun _ _ => (br_wp (hQ _ _) (bd_wp (rd_wp fun _ => (hQ _ _)))))) (br_wp (wp_w_isPair (fun _ _ => (br_wp (hQ _ _) (bd_wp (rd_wp fun _ => (hQ _ _)))))) (br_wp (wp_w_isNatural (fun _ _ => (wp_w_truth (fun _ _ => (hQ _ _))))) (br_wp (wp_w_isSymbol (fun _ _ => (wp_w_truth (fun _ _ => (hQ _ _))))) (br_wp (br_wp (wp_w_basic_311  hQ) (wp_w_basic_311  hQ)) (br_wp (bd_wp (rd_wp fun _ => (wp_w_natural (fun _ _ => (hQ _ _))))) (br_wp (wp_w_basic_311  hQ) (wp_w_basic_311  hQ))))))))))))))))))))
def pw_takeValue_81 (Q : iST → Prop) (x1 : Int) (x2 : Int) (y2 : Int) (y3 : Int) (u : iST) : Prop :=
  pw_term y2 y3 (fun v12 u => 
  bdp x2 300 (rd (u.2.1 82 x2) (fun v13 => 
  bdp x2 300 (rd (u.2.1 83 x2) (fun v14 => 
  pw_beginEval v12 v13 v14 x1 (fun u => 
  Q u) u))))) u
theorem cj_w_takeValue_81 {Q1 Q2 Q3 : iST → Prop}  {x1 : Int} {x2 : Int} {y2 : Int} {y3 : Int} {u : iST} (hQ : ∀ r0, Q1 r0 → Q2 r0 → Q3 r0) : w_takeValue_81 Q1 x1 x2 y2 y3 u → pw_takeValue_81 Q2 x1 x2 y2 y3 u → w_takeValue_81 Q3 x1 x2 y2 y3 u := (cj_w_term (fun _ _ => (bd_cj (rd_cj fun _ => (bd_cj (rd_cj fun _ => (cj_w_beginEval (fun _ => (hQ _)))))))))
theorem mn_w_takeValue_81 {Q1 Q2 : iST → Prop}  {x1 : Int} {x2 : Int} {y2 : Int} {y3 : Int} {u : iST} (hQ : ∀ r0, Q1 r0 → Q2 r0) : pw_takeValue_81 Q1 x1 x2 y2 y3 u → pw_takeValue_81 Q2 x1 x2 y2 y3 u := (mn_w_term (fun _ _ => (bd_mn (rd_mn fun _ => (bd_mn (rd_mn fun _ => (mn_w_beginEval (fun _ => (hQ _)))))))))
theorem wp_w_takeValue_81 {Q1 Q2 : iST → Prop}  {x1 : Int} {x2 : Int} {y2 : Int} {y3 : Int} {u : iST} (hQ : ∀ r0, Q1 r0 → Q2 r0) : w_takeValue_81 Q1 x1 x2 y2 y3 u → pw_takeValue_81 Q2 x1 x2 y2 y3 u := (wp_w_term (fun _ _ => (bd_wp (rd_wp fun _ => (bd_wp (rd_wp fun _ => (wp_w_beginEval (fun _ => (hQ _)))))))))
def pw_takeValue (a0 : Int) (Q : iST → Prop) (u : iST) : Prop :=
  rd (u.1 85) (fun v1 => 
  ovp (v1 - 1) (
  bdp (v1 - 1) 300 (rz (u.2.1 84 (v1 - 1)) (fun v3 => 
  br (v3 = 0) (
    bdp (v1 - 1) 300 (rd (u.2.1 79 (v1 - 1)) (fun v4 => 
    bdp v4 452000 (rd (u.2.1 0 v4) (fun v5 => 
    br (v5 ≠ 3) (
      rd (u.1 87) (fun v6 => 
      rd (u.1 91) (fun v7 => 
      bdp v6 2400 (sw (iA u 86 v6 v7) (fun u => 
      rd (u.1 87) (fun v8 => 
      ovp (v8 + 1) (
      sw (iI u 87 (v8 + 1)) (fun u => 
      ztp 0 (sw (iI u 90 0) (fun u => 
      Q u)))))))))) (
      ztp 1 (bdp (v1 - 1) 300 (sw (iA u 84 (v1 - 1) 1) (fun u => 
      bdp (v1 - 1) 300 (rd (u.2.1 79 (v1 - 1)) (fun v10 => 
      rd (u.1 91) (fun v11 => 
      br (v11 ≠ 0) (
        pw_takeValue_81 Q a0 (v1 - 1) v10 2 u) (
        pw_takeValue_81 Q a0 (v1 - 1) v10 3 u))))))))))))) (
    rd (u.1 85) (fun v16 => 
    ovp (v16 - 1) (
    sw (iI u 85 (v16 - 1)) (fun u => 
    bdp (v1 - 1) 300 (rd (u.2.1 81 (v1 - 1)) (fun v18 => 
    sw (iI u 87 v18) (fun u => 
    Q u)))))))))))
theorem cj_w_takeValue {Q1 Q2 Q3 : iST → Prop}  {a0 : Int} {u : iST} (hQ : ∀ r0, Q1 r0 → Q2 r0 → Q3 r0) : w_takeValue a0 Q1 u → pw_takeValue a0 Q2 u → w_takeValue a0 Q3 u := (rd_cj fun _ => (ov_cj (bd_cj (rz_cj fun _ => (br_cj (bd_cj (rd_cj fun _ => (bd_cj (rd_cj fun _ => (br_cj (rd_cj fun _ => (rd_cj fun _ => (bd_cj (sw_cj fun _ => (rd_cj fun _ => (ov_cj (sw_cj fun _ => (zt_cj (sw_cj fun _ => (hQ _)))))))))) (zt_cj (bd_cj (sw_cj fun _ => (bd_cj (rd_cj fun _ => (rd_cj fun _ => (br_cj (cj_w_takeValue_81  hQ) (cj_w_takeValue_81  hQ))))))))))))) (rd_cj fun _ => (ov_cj (sw_cj fun _ => (bd_cj (rd_cj fun _ => (sw_cj fun _ => (hQ _))))))))))))
theorem mn_w_takeValue {Q1 Q2 : iST → Prop}  {a0 : Int} {u : iST} (hQ : ∀ r0, Q1 r0 → Q2 r0) : pw_takeValue a0 Q1 u → pw_takeValue a0 Q2 u := (rd_mn fun _ => (ov_mn (bd_mn (rz_mn fun _ => (br_mn (bd_mn (rd_mn fun _ => (bd_mn (rd_mn fun _ => (br_mn (rd_mn fun _ => (rd_mn fun _ => (bd_mn (sw_mn fun _ => (rd_mn fun _ => (ov_mn (sw_mn fun _ => (zt_mn (sw_mn fun _ => (hQ _)))))))))) (zt_mn (bd_mn (sw_mn fun _ => (bd_mn (rd_mn fun _ => (rd_mn fun _ => (br_mn (mn_w_takeValue_81  hQ) (mn_w_takeValue_81  hQ))))))))))))) (rd_mn fun _ => (ov_mn (sw_mn fun _ => (bd_mn (rd_mn fun _ => (sw_mn fun _ => (hQ _))))))))))))
theorem wp_w_takeValue {Q1 Q2 : iST → Prop}  {a0 : Int} {u : iST} (hQ : ∀ r0, Q1 r0 → Q2 r0) : w_takeValue a0 Q1 u → pw_takeValue a0 Q2 u := (rd_wp fun _ => (ov_wp (bd_wp (rz_wp fun _ => (br_wp (bd_wp (rd_wp fun _ => (bd_wp (rd_wp fun _ => (br_wp (rd_wp fun _ => (rd_wp fun _ => (bd_wp (sw_wp fun _ => (rd_wp fun _ => (ov_wp (sw_wp fun _ => (zt_wp (sw_wp fun _ => (hQ _)))))))))) (zt_wp (bd_wp (sw_wp fun _ => (bd_wp (rd_wp fun _ => (rd_wp fun _ => (br_wp (wp_w_takeValue_81  hQ) (wp_w_takeValue_81  hQ))))))))))))) (rd_wp fun _ => (ov_wp (sw_wp fun _ => (bd_wp (rd_wp fun _ => (sw_wp fun _ => (hQ _))))))))))))
def pw_goOn (a0 : Int) (Q : iST → Prop) (u : iST) : Prop :=
  rd (u.1 85) (fun v1 => 
  ovp (v1 - 1) (
  bdp (v1 - 1) 300 (rd (u.2.1 80 (v1 - 1)) (fun v3 => 
  br (v3 = 0) (
    bdp (v1 - 1) 300 (rd (u.2.1 79 (v1 - 1)) (fun v4 => 
    bdp v4 452000 (rd (u.2.1 0 v4) (fun v5 => 
    pw_functionOf v5 (fun v6 u => 
    ztp 1 (bdp (v1 - 1) 300 (sw (iA u 84 (v1 - 1) 1) (fun u => 
    br (v6 < 100) (
      bdp (v1 - 1) 300 (rd (u.2.1 81 (v1 - 1)) (fun v7 => 
      pw_basic v6 v7 (fun v8 u => 
      sw (iI u 91 v8) (fun u => 
      ztp 1 (sw (iI u 90 1) (fun u => 
      rd (u.1 91) (fun v9 => 
      br (v9 ≠ (-1)) (
        Q u) (
        sw (iI u 89 3) (fun u => 
        Q u))))))) u))) (
      ovp (v6 - 100) (
      bdp (v6 - 100) 40 (rd (u.2.1 39 (v6 - 100)) (fun v11 => 
      ovp (v6 - 100) (
      bdp (v1 - 1) 300 (rd (u.2.1 81 (v1 - 1)) (fun v13 => 
      pw_beginEval v11 (v6 - 100) v13 a0 (fun u => 
      Q u) u))))))))))) u))))) (
    bdp (v1 - 1) 300 (rd (u.2.1 80 (v1 - 1)) (fun v15 => 
    bdp v15 452000 (rd (u.2.1 0 v15) (fun v16 => 
    bdp (v1 - 1) 300 (rd (u.2.1 80 (v1 - 1)) (fun v17 => 
    bdp v17 452000 (rd (u.2.1 1 v17) (fun v18 => 
    bdp (v1 - 1) 300 (sw (iA u 80 (v1 - 1) v18) (fun u => 
    bdp (v1 - 1) 300 (rd (u.2.1 82 (v1 - 1)) (fun v19 => 
    bdp (v1 - 1) 300 (rd (u.2.1 83 (v1 - 1)) (fun v20 => 
    pw_beginEval v16 v19 v20 a0 (fun u => 
    Q u) u)))))))))))))))))))
theorem cj_w_goOn {Q1 Q2 Q3 : iST → Prop}  {a0 : Int} {u : iST} (hQ : ∀ r0, Q1 r0 → Q2 r0 → Q3 r0) : w_goOn a0 Q1 u → pw_goOn a0 Q2 u → w_goOn a0 Q3 u := (rd_cj fun _ => (ov_cj (bd_cj (rd_cj fun _ => (br_cj (bd_cj (rd_cj fun _ => (bd_cj (rd_cj fun _ => (cj_w_functionOf (fun _ _ => (zt_cj (bd_cj (sw_cj fun _ => (br_cj (bd_cj (rd_cj fun _ => (cj_w_basic (fun _ _ => (sw_cj fun _ => (zt_cj (sw_cj fun _ => (rd_cj fun _ => (br_cj (hQ _) (sw_cj fun _ => (hQ _))))))))))) (ov_cj (bd_cj (rd_cj fun _ => (ov_cj (bd_cj (rd_cj fun _ => (cj_w_beginEval (fun _ => (hQ _))))))))))))))))))) (bd_cj (rd_cj fun _ => (bd_cj (rd_cj fun _ => (bd_cj (rd_cj fun _ => (bd_cj (rd_cj fun _ => (bd_cj (sw_cj fun _ => (bd_cj (rd_cj fun _ => (bd_cj (rd_cj fun _ => (cj_w_beginEval (fun _ => (hQ _))))))))))))))))))))))
theorem mn_w_goOn {Q1 Q2 : iST → Prop}  {a0 : Int} {u : iST} (hQ : ∀ r0, Q1 r0 → Q2 r0) : pw_goOn a0 Q1 u → pw_goOn a0 Q2 u := (rd_mn fun _ => (ov_mn (bd_mn (rd_mn fun _ => (br_mn (bd_mn (rd_mn fun _ => (bd_mn (rd_mn fun _ => (mn_w_functionOf (fun _ _ => (zt_mn (bd_mn (sw_mn fun _ => (br_mn (bd_mn (rd_mn fun _ => (mn_w_basic (fun _ _ => (sw_mn fun _ => (zt_mn (sw_mn fun _ => (rd_mn fun _ => (br_mn (hQ _) (sw_mn fun _ => (hQ _))))))))))) (ov_mn (bd_mn (rd_mn fun _ => (ov_mn (bd_mn (rd_mn fun _ => (mn_w_beginEval (fun _ => (hQ _))))))))))))))))))) (bd_mn (rd_mn fun _ => (bd_mn (rd_mn fun _ => (bd_mn (rd_mn fun _ => (bd_mn (rd_mn fun _ => (bd_mn (sw_mn fun _ => (bd_mn (rd_mn fun _ => (bd_mn (rd_mn fun _ => (mn_w_beginEval (fun _ => (hQ _))))))))))))))))))))))
theorem wp_w_goOn {Q1 Q2 : iST → Prop}  {a0 : Int} {u : iST} (hQ : ∀ r0, Q1 r0 → Q2 r0) : w_goOn a0 Q1 u → pw_goOn a0 Q2 u := (rd_wp fun _ => (ov_wp (bd_wp (rd_wp fun _ => (br_wp (bd_wp (rd_wp fun _ => (bd_wp (rd_wp fun _ => (wp_w_functionOf (fun _ _ => (zt_wp (bd_wp (sw_wp fun _ => (br_wp (bd_wp (rd_wp fun _ => (wp_w_basic (fun _ _ => (sw_wp fun _ => (zt_wp (sw_wp fun _ => (rd_wp fun _ => (br_wp (hQ _) (sw_wp fun _ => (hQ _))))))))))) (ov_wp (bd_wp (rd_wp fun _ => (ov_wp (bd_wp (rd_wp fun _ => (wp_w_beginEval (fun _ => (hQ _))))))))))))))))))) (bd_wp (rd_wp fun _ => (bd_wp (rd_wp fun _ => (bd_wp (rd_wp fun _ => (bd_wp (rd_wp fun _ => (bd_wp (sw_wp fun _ => (bd_wp (rd_wp fun _ => (bd_wp (rd_wp fun _ => (wp_w_beginEval (fun _ => (hQ _))))))))))))))))))))))
def pw_evaluated_73 (Q : Int → iST → Prop) (u : iST) : Prop :=
  rd (u.1 89) (fun v3 => 
  br (v3 ≠ 0) (
    Q (-1) u) (
    rd (u.1 91) (fun v4 => 
    Q v4 u)))
theorem cj_w_evaluated_73 {Q1 Q2 Q3 : Int → iST → Prop}  {u : iST} (hQ : ∀ r0 r1, Q1 r0 r1 → Q2 r0 r1 → Q3 r0 r1) : w_evaluated_73 Q1 u → pw_evaluated_73 Q2 u → w_evaluated_73 Q3 u := (rd_cj fun _ => (br_cj (hQ _ _) (rd_cj fun _ => (hQ _ _))))
theorem mn_w_evaluated_73 {Q1 Q2 : Int → iST → Prop}  {u : iST} (hQ : ∀ r0 r1, Q1 r0 r1 → Q2 r0 r1) : pw_evaluated_73 Q1 u → pw_evaluated_73 Q2 u := (rd_mn fun _ => (br_mn (hQ _ _) (rd_mn fun _ => (hQ _ _))))
theorem wp_w_evaluated_73 {Q1 Q2 : Int → iST → Prop}  {u : iST} (hQ : ∀ r0 r1, Q1 r0 r1 → Q2 r0 r1) : w_evaluated_73 Q1 u → pw_evaluated_73 Q2 u := (rd_wp fun _ => (br_wp (hQ _ _) (rd_wp fun _ => (hQ _ _))))
def pw_evaluated_50 (R29 : Int → iST → Prop) (Q : Int → iST → Prop) (x2 : Int) (u : iST) : Prop :=
  rz (u.1 90) (fun v6 => 
  br (v6 = 0) (
    pw_goOn x2 (fun u => 
    R29 x2 u) u) (
    pw_takeValue x2 (fun u => 
    R29 x2 u) u))
theorem cj_w_evaluated_50 {Q1 Q2 Q3 : Int → iST → Prop} {R291 R292 R293 : Int → iST → Prop} {x2 : Int} {u : iST} (hR29 : ∀ r0 r1, R291 r0 r1 → R292 r0 r1 → R293 r0 r1) (hQ : ∀ r0 r1, Q1 r0 r1 → Q2 r0 r1 → Q3 r0 r1) : w_evaluated_50 R291 Q1 x2 u → pw_evaluated_50 R292 Q2 x2 u → w_evaluated_50 R293 Q3 x2 u := (rz_cj fun _ => (br_cj (cj_w_goOn (fun _ => (hR29 _ _))) (cj_w_takeValue (fun _ => (hR29 _ _)))))
theorem mn_w_evaluated_50 {Q1 Q2 : Int → iST → Prop} {R291 R292 : Int → iST → Prop} {x2 : Int} {u : iST} (hR29 : ∀ r0 r1, R291 r0 r1 → R292 r0 r1) (hQ : ∀ r0 r1, Q1 r0 r1 → Q2 r0 r1) : pw_evaluated_50 R291 Q1 x2 u → pw_evaluated_50 R292 Q2 x2 u := (rz_mn fun _ => (br_mn (mn_w_goOn (fun _ => (hR29 _ _))) (mn_w_takeValue (fun _ => (hR29 _ _)))))
theorem wp_w_evaluated_50 {Q1 Q2 : Int → iST → Prop} {R291 R292 : Int → iST → Prop} {x2 : Int} {u : iST} (hR29 : ∀ r0 r1, R291 r0 r1 → R292 r0 r1) (hQ : ∀ r0 r1, Q1 r0 r1 → Q2 r0 r1) : w_evaluated_50 R291 Q1 x2 u → pw_evaluated_50 R292 Q2 x2 u := (rz_wp fun _ => (br_wp (wp_w_goOn (fun _ => (hR29 _ _))) (wp_w_takeValue (fun _ => (hR29 _ _)))))
def pw_evaluated_29b (R29 : Int → iST → Prop) (Q : Int → iST → Prop) (x2 : Int) (u : iST) : Prop :=
  rd (u.1 89) (fun v2 => 
  br (v2 ≠ 0) (
    pw_evaluated_73 Q u) (
    rz (u.1 90) (fun v5 => 
    br (v5 = 0) (
      pw_evaluated_50 R29 Q x2 u) (
      rd (u.1 85) (fun v9 => 
      br (v9 = 0) (
        pw_evaluated_73 Q u) (
        pw_evaluated_50 R29 Q x2 u))))))
theorem cj_w_evaluated_29b {Q1 Q2 Q3 : Int → iST → Prop} {R291 R292 R293 : Int → iST → Prop} {x2 : Int} {u : iST} (hR29 : ∀ r0 r1, R291 r0 r1 → R292 r0 r1 → R293 r0 r1) (hQ : ∀ r0 r1, Q1 r0 r1 → Q2 r0 r1 → Q3 r0 r1) : w_evaluated_29b R291 Q1 x2 u → pw_evaluated_29b R292 Q2 x2 u → w_evaluated_29b R293 Q3 x2 u := (rd_cj fun _ => (br_cj (cj_w_evaluated_73  hQ) (rz_cj fun _ => (br_cj (cj_w_evaluated_50 hR29 hQ) (rd_cj fun _ => (br_cj (cj_w_evaluated_73  hQ) (cj_w_evaluated_50 hR29 hQ)))))))
theorem mn_w_evaluated_29b {Q1 Q2 : Int → iST → Prop} {R291 R292 : Int → iST → Prop} {x2 : Int} {u : iST} (hR29 : ∀ r0 r1, R291 r0 r1 → R292 r0 r1) (hQ : ∀ r0 r1, Q1 r0 r1 → Q2 r0 r1) : pw_evaluated_29b R291 Q1 x2 u → pw_evaluated_29b R292 Q2 x2 u := (rd_mn fun _ => (br_mn (mn_w_evaluated_73  hQ) (rz_mn fun _ => (br_mn (mn_w_evaluated_50 hR29 hQ) (rd_mn fun _ => (br_mn (mn_w_evaluated_73  hQ) (mn_w_evaluated_50 hR29 hQ)))))))
theorem wp_w_evaluated_29b {Q1 Q2 : Int → iST → Prop} {R291 R292 : Int → iST → Prop} {x2 : Int} {u : iST} (hR29 : ∀ r0 r1, R291 r0 r1 → R292 r0 r1) (hQ : ∀ r0 r1, Q1 r0 r1 → Q2 r0 r1) : w_evaluated_29b R291 Q1 x2 u → pw_evaluated_29b R292 Q2 x2 u := (rd_wp fun _ => (br_wp (wp_w_evaluated_73  hQ) (rz_wp fun _ => (br_wp (wp_w_evaluated_50 hR29 hQ) (rd_wp fun _ => (br_wp (wp_w_evaluated_73  hQ) (wp_w_evaluated_50 hR29 hQ)))))))
def pw_evaluated_29 (Q : Int → iST → Prop) (x2 : Int) (u : iST) : Prop := ∃ R29 : Int → iST → Prop, (∀ (x2 : Int) (u : iST), R29 x2 u → pw_evaluated_29b R29 Q x2 u) ∧ R29 x2 u
theorem cj_w_evaluated_29 {Q1 Q2 Q3 : Int → iST → Prop}  {x2 : Int} {u : iST} (hQ : ∀ r0 r1, Q1 r0 r1 → Q2 r0 r1 → Q3 r0 r1) : w_evaluated_29 Q1 x2 u → pw_evaluated_29 Q2 x2 u → w_evaluated_29 Q3 x2 u := by
  intro a b R3 c3
  obtain ⟨R2, c2, b2⟩ := b
  exact a (fun r0 r1 => R2 r0 r1 → R3 r0 r1) (fun r0 r1 a b => c3 r0 r1 (cj_w_evaluated_29b (fun r0 r1 a b => a b) hQ a (c2 r0 r1 b))) b2
theorem pw_evaluated_29_i  {Q : Int → iST → Prop} {x2 : Int} {u : iST} (I : Int → iST → Prop) (s : ∀ (x2 : Int) (u : iST), I x2 u → pw_evaluated_29b I Q x2 u) (h : I x2 u) : pw_evaluated_29 Q x2 u := ⟨I, s, h⟩
theorem mn_w_evaluated_29 {Q1 Q2 : Int → iST → Prop}  {x2 : Int} {u : iST} (hQ : ∀ r0 r1, Q1 r0 r1 → Q2 r0 r1) : pw_evaluated_29 Q1 x2 u → pw_evaluated_29 Q2 x2 u := fun ⟨R, s, h⟩ => ⟨R, fun r0 r1 a => mn_w_evaluated_29b (fun r0 r1 a => a) hQ (s r0 r1 a), h⟩
theorem un_w_evaluated_29  {Q : Int → iST → Prop} {x2 : Int} {u : iST} : pw_evaluated_29 Q x2 u → pw_evaluated_29b (fun x2 u => pw_evaluated_29 Q x2 u) Q x2 u := fun ⟨R, s, h⟩ => mn_w_evaluated_29b (fun r0 r1 a => ⟨R, s, a⟩) (fun _ _ h => h) (s _ _ h)
theorem fo_w_evaluated_29  {Q : Int → iST → Prop} {x2 : Int} {u : iST} : pw_evaluated_29b (fun x2 u => pw_evaluated_29 Q x2 u) Q x2 u → pw_evaluated_29 Q x2 u := fun h => ⟨fun x2 u => pw_evaluated_29b (fun x2 u => pw_evaluated_29 Q x2 u) Q x2 u, fun r0 r1 a => mn_w_evaluated_29b (fun r0 r1 a => un_w_evaluated_29 a) (fun _ _ h => h) a, h⟩
theorem wp_w_evaluated_29 {Q1 Q2 : Int → iST → Prop}  {x2 : Int} {u : iST} (hQ : ∀ r0 r1, Q1 r0 r1 → Q2 r0 r1) : w_evaluated_29 Q1 x2 u → pw_evaluated_29 Q2 x2 u := fun a => a (fun x2 u => pw_evaluated_29 Q2 x2 u) (fun x2 u b => fo_w_evaluated_29 (wp_w_evaluated_29b (fun r0 r1 a => a) hQ b))
def pw_evaluated (a0 : Int) (a1 : Int) (Q : Int → iST → Prop) (u : iST) : Prop :=
  sw (iI u 85 0) (fun u => 
  sw (iI u 87 0) (fun u => 
  sw (iI u 88 100) (fun u => 
  sw (iI u 89 0) (fun u => 
  pw_beginEval a0 0 0 a1 (fun u => 
  pw_evaluated_29 Q a1 u) u))))
theorem cj_w_evaluated {Q1 Q2 Q3 : Int → iST → Prop}  {a0 : Int} {a1 : Int} {u : iST} (hQ : ∀ r0 r1, Q1 r0 r1 → Q2 r0 r1 → Q3 r0 r1) : w_evaluated a0 a1 Q1 u → pw_evaluated a0 a1 Q2 u → w_evaluated a0 a1 Q3 u := (sw_cj fun _ => (sw_cj fun _ => (sw_cj fun _ => (sw_cj fun _ => (cj_w_beginEval (fun _ => (cj_w_evaluated_29  hQ)))))))
theorem mn_w_evaluated {Q1 Q2 : Int → iST → Prop}  {a0 : Int} {a1 : Int} {u : iST} (hQ : ∀ r0 r1, Q1 r0 r1 → Q2 r0 r1) : pw_evaluated a0 a1 Q1 u → pw_evaluated a0 a1 Q2 u := (sw_mn fun _ => (sw_mn fun _ => (sw_mn fun _ => (sw_mn fun _ => (mn_w_beginEval (fun _ => (mn_w_evaluated_29  hQ)))))))
theorem wp_w_evaluated {Q1 Q2 : Int → iST → Prop}  {a0 : Int} {a1 : Int} {u : iST} (hQ : ∀ r0 r1, Q1 r0 r1 → Q2 r0 r1) : w_evaluated a0 a1 Q1 u → pw_evaluated a0 a1 Q2 u := (sw_wp fun _ => (sw_wp fun _ => (sw_wp fun _ => (sw_wp fun _ => (wp_w_beginEval (fun _ => (wp_w_evaluated_29  hQ)))))))
def pw_beginJob (a0 : Int) (a1 : Int) (Q : iST → Prop) (u : iST) : Prop :=
  ztp 0 (sw (iI u 111 0) (fun u => 
  rd (u.1 61) (fun v1 => 
  br (v1 = 0) (
    rd (u.1 102) (fun v2 => 
    br (v2 ≠ 60) (
      pw_isStep (fun v3 u => 
      br (v3 ≠ 0) (
        rd (u.1 102) (fun v4 => 
        bdp v4 60 (sw (iA u 92 v4 a0) (fun u => 
        rd (u.1 102) (fun v5 => 
        ztp a1 (bdp v5 60 (sw (iA u 93 v5 a1) (fun u => 
        rd (u.1 102) (fun v6 => 
        bdp v6 60 (sw (iA u 94 v6 0) (fun u => 
        rd (u.1 102) (fun v7 => 
        ovp (v7 + 1) (
        sw (iI u 102 (v7 + 1)) (fun u => 
        Q u)))))))))))))) (
        Q u)) u) (
      pw_fail 2 (fun u => 
      Q u) u))) (
    Q u))))
theorem cj_w_beginJob {Q1 Q2 Q3 : iST → Prop}  {a0 : Int} {a1 : Int} {u : iST} (hQ : ∀ r0, Q1 r0 → Q2 r0 → Q3 r0) : w_beginJob a0 a1 Q1 u → pw_beginJob a0 a1 Q2 u → w_beginJob a0 a1 Q3 u := (zt_cj (sw_cj fun _ => (rd_cj fun _ => (br_cj (rd_cj fun _ => (br_cj (cj_w_isStep (fun _ _ => (br_cj (rd_cj fun _ => (bd_cj (sw_cj fun _ => (rd_cj fun _ => (zt_cj (bd_cj (sw_cj fun _ => (rd_cj fun _ => (bd_cj (sw_cj fun _ => (rd_cj fun _ => (ov_cj (sw_cj fun _ => (hQ _)))))))))))))) (hQ _)))) (cj_w_fail (fun _ => (hQ _))))) (hQ _)))))
theorem mn_w_beginJob {Q1 Q2 : iST → Prop}  {a0 : Int} {a1 : Int} {u : iST} (hQ : ∀ r0, Q1 r0 → Q2 r0) : pw_beginJob a0 a1 Q1 u → pw_beginJob a0 a1 Q2 u := (zt_mn (sw_mn fun _ => (rd_mn fun _ => (br_mn (rd_mn fun _ => (br_mn (mn_w_isStep (fun _ _ => (br_mn (rd_mn fun _ => (bd_mn (sw_mn fun _ => (rd_mn fun _ => (zt_mn (bd_mn (sw_mn fun _ => (rd_mn fun _ => (bd_mn (sw_mn fun _ => (rd_mn fun _ => (ov_mn (sw_mn fun _ => (hQ _)))))))))))))) (hQ _)))) (mn_w_fail (fun _ => (hQ _))))) (hQ _)))))
theorem wp_w_beginJob {Q1 Q2 : iST → Prop}  {a0 : Int} {a1 : Int} {u : iST} (hQ : ∀ r0, Q1 r0 → Q2 r0) : w_beginJob a0 a1 Q1 u → pw_beginJob a0 a1 Q2 u := (zt_wp (sw_wp fun _ => (rd_wp fun _ => (br_wp (rd_wp fun _ => (br_wp (wp_w_isStep (fun _ _ => (br_wp (rd_wp fun _ => (bd_wp (sw_wp fun _ => (rd_wp fun _ => (zt_wp (bd_wp (sw_wp fun _ => (rd_wp fun _ => (bd_wp (sw_wp fun _ => (rd_wp fun _ => (ov_wp (sw_wp fun _ => (hQ _)))))))))))))) (hQ _)))) (wp_w_fail (fun _ => (hQ _))))) (hQ _)))))
def pw_end0_40 (Q : iST → Prop) (y1 : Int) (u : iST) : Prop :=
  sw (iI u 110 y1) (fun u => 
  ztp 1 (sw (iI u 111 1) (fun u => 
  Q u)))
theorem cj_w_end0_40 {Q1 Q2 Q3 : iST → Prop}  {y1 : Int} {u : iST} (hQ : ∀ r0, Q1 r0 → Q2 r0 → Q3 r0) : w_end0_40 Q1 y1 u → pw_end0_40 Q2 y1 u → w_end0_40 Q3 y1 u := (sw_cj fun _ => (zt_cj (sw_cj fun _ => (hQ _))))
theorem mn_w_end0_40 {Q1 Q2 : iST → Prop}  {y1 : Int} {u : iST} (hQ : ∀ r0, Q1 r0 → Q2 r0) : pw_end0_40 Q1 y1 u → pw_end0_40 Q2 y1 u := (sw_mn fun _ => (zt_mn (sw_mn fun _ => (hQ _))))
theorem wp_w_end0_40 {Q1 Q2 : iST → Prop}  {y1 : Int} {u : iST} (hQ : ∀ r0, Q1 r0 → Q2 r0) : w_end0_40 Q1 y1 u → pw_end0_40 Q2 y1 u := (sw_wp fun _ => (zt_wp (sw_wp fun _ => (hQ _))))
def pw_end0_39 (Q : iST → Prop) (x1 : Int) (u : iST) : Prop :=
  pw_end0_40 Q x1 u
theorem cj_w_end0_39 {Q1 Q2 Q3 : iST → Prop}  {x1 : Int} {u : iST} (hQ : ∀ r0, Q1 r0 → Q2 r0 → Q3 r0) : w_end0_39 Q1 x1 u → pw_end0_39 Q2 x1 u → w_end0_39 Q3 x1 u := (cj_w_end0_40  hQ)
theorem mn_w_end0_39 {Q1 Q2 : iST → Prop}  {x1 : Int} {u : iST} (hQ : ∀ r0, Q1 r0 → Q2 r0) : pw_end0_39 Q1 x1 u → pw_end0_39 Q2 x1 u := (mn_w_end0_40  hQ)
theorem wp_w_end0_39 {Q1 Q2 : iST → Prop}  {x1 : Int} {u : iST} (hQ : ∀ r0, Q1 r0 → Q2 r0) : w_end0_39 Q1 x1 u → pw_end0_39 Q2 x1 u := (wp_w_end0_40  hQ)
def pw_end0 (a0 : Int) (Q : iST → Prop) (u : iST) : Prop :=
  rd (u.1 102) (fun v1 => 
  ovp (v1 - 1) (
  sw (iI u 102 (v1 - 1)) (fun u => 
  rd (u.1 102) (fun v3 => 
  bdp v3 60 (rz (u.2.1 93 v3) (fun v4 => 
  br (v4 = 0) (
    pw_end0_39 Q a0 u) (
    br (a0 = 0) (
      pw_end0_39 Q a0 u) (
      pw_isConstant a0 (fun v5 u => 
      br (v5 = 0) (
        pw_end0_39 Q a0 u) (
        pw_end0_40 Q 1 u)) u))))))))
theorem cj_w_end0 {Q1 Q2 Q3 : iST → Prop}  {a0 : Int} {u : iST} (hQ : ∀ r0, Q1 r0 → Q2 r0 → Q3 r0) : w_end0 a0 Q1 u → pw_end0 a0 Q2 u → w_end0 a0 Q3 u := (rd_cj fun _ => (ov_cj (sw_cj fun _ => (rd_cj fun _ => (bd_cj (rz_cj fun _ => (br_cj (cj_w_end0_39  hQ) (br_cj (cj_w_end0_39  hQ) (cj_w_isConstant (fun _ _ => (br_cj (cj_w_end0_39  hQ) (cj_w_end0_40  hQ))))))))))))
theorem mn_w_end0 {Q1 Q2 : iST → Prop}  {a0 : Int} {u : iST} (hQ : ∀ r0, Q1 r0 → Q2 r0) : pw_end0 a0 Q1 u → pw_end0 a0 Q2 u := (rd_mn fun _ => (ov_mn (sw_mn fun _ => (rd_mn fun _ => (bd_mn (rz_mn fun _ => (br_mn (mn_w_end0_39  hQ) (br_mn (mn_w_end0_39  hQ) (mn_w_isConstant (fun _ _ => (br_mn (mn_w_end0_39  hQ) (mn_w_end0_40  hQ))))))))))))
theorem wp_w_end0 {Q1 Q2 : iST → Prop}  {a0 : Int} {u : iST} (hQ : ∀ r0, Q1 r0 → Q2 r0) : w_end0 a0 Q1 u → pw_end0 a0 Q2 u := (rd_wp fun _ => (ov_wp (sw_wp fun _ => (rd_wp fun _ => (bd_wp (rz_wp fun _ => (br_wp (wp_w_end0_39  hQ) (br_wp (wp_w_end0_39  hQ) (wp_w_isConstant (fun _ _ => (br_wp (wp_w_end0_39  hQ) (wp_w_end0_40  hQ))))))))))))
def pw_passOn (a0 : Int) (Q : iST → Prop) (u : iST) : Prop :=
  rd (u.1 102) (fun v1 => 
  ovp (v1 - 1) (
  bdp (v1 - 1) 60 (sw (iA u 94 (v1 - 1) 90) (fun u => 
  bdp (v1 - 1) 60 (rz (u.2.1 93 (v1 - 1)) (fun v3 => 
  pw_beginJob a0 v3 (fun u => 
  Q u) u))))))
theorem cj_w_passOn {Q1 Q2 Q3 : iST → Prop}  {a0 : Int} {u : iST} (hQ : ∀ r0, Q1 r0 → Q2 r0 → Q3 r0) : w_passOn a0 Q1 u → pw_passOn a0 Q2 u → w_passOn a0 Q3 u := (rd_cj fun _ => (ov_cj (bd_cj (sw_cj fun _ => (bd_cj (rz_cj fun _ => (cj_w_beginJob (fun _ => (hQ _)))))))))
theorem mn_w_passOn {Q1 Q2 : iST → Prop}  {a0 : Int} {u : iST} (hQ : ∀ r0, Q1 r0 → Q2 r0) : pw_passOn a0 Q1 u → pw_passOn a0 Q2 u := (rd_mn fun _ => (ov_mn (bd_mn (sw_mn fun _ => (bd_mn (rz_mn fun _ => (mn_w_beginJob (fun _ => (hQ _)))))))))
theorem wp_w_passOn {Q1 Q2 : iST → Prop}  {a0 : Int} {u : iST} (hQ : ∀ r0, Q1 r0 → Q2 r0) : w_passOn a0 Q1 u → pw_passOn a0 Q2 u := (rd_wp fun _ => (ov_wp (bd_wp (sw_wp fun _ => (bd_wp (rz_wp fun _ => (wp_w_beginJob (fun _ => (hQ _)))))))))
def pw_isInContext_2b (R2 : Int → Int → iST → Prop) (Q : Int → iST → Prop) (x1 : Int) (x2 : Int) (u : iST) : Prop :=
  rd (u.1 109) (fun v1 => 
  br (v1 ≤ x2) (
    ztp 0 (Q 0 u)) (
    bdp x2 200 (rd (u.2.1 108 x2) (fun v2 => 
    br (v2 ≠ x1) (
      ovp (x2 + 1) (
      R2 x1 (x2 + 1) u)) (
      ztp 1 (Q 1 u))))))
theorem cj_w_isInContext_2b {Q1 Q2 Q3 : Int → iST → Prop} {R21 R22 R23 : Int → Int → iST → Prop} {x1 : Int} {x2 : Int} {u : iST} (hR2 : ∀ r0 r1 r2, R21 r0 r1 r2 → R22 r0 r1 r2 → R23 r0 r1 r2) (hQ : ∀ r0 r1, Q1 r0 r1 → Q2 r0 r1 → Q3 r0 r1) : w_isInContext_2b R21 Q1 x1 x2 u → pw_isInContext_2b R22 Q2 x1 x2 u → w_isInContext_2b R23 Q3 x1 x2 u := (rd_cj fun _ => (br_cj (zt_cj (hQ _ _)) (bd_cj (rd_cj fun _ => (br_cj (ov_cj (hR2 _ _ _)) (zt_cj (hQ _ _)))))))
theorem mn_w_isInContext_2b {Q1 Q2 : Int → iST → Prop} {R21 R22 : Int → Int → iST → Prop} {x1 : Int} {x2 : Int} {u : iST} (hR2 : ∀ r0 r1 r2, R21 r0 r1 r2 → R22 r0 r1 r2) (hQ : ∀ r0 r1, Q1 r0 r1 → Q2 r0 r1) : pw_isInContext_2b R21 Q1 x1 x2 u → pw_isInContext_2b R22 Q2 x1 x2 u := (rd_mn fun _ => (br_mn (zt_mn (hQ _ _)) (bd_mn (rd_mn fun _ => (br_mn (ov_mn (hR2 _ _ _)) (zt_mn (hQ _ _)))))))
theorem wp_w_isInContext_2b {Q1 Q2 : Int → iST → Prop} {R21 R22 : Int → Int → iST → Prop} {x1 : Int} {x2 : Int} {u : iST} (hR2 : ∀ r0 r1 r2, R21 r0 r1 r2 → R22 r0 r1 r2) (hQ : ∀ r0 r1, Q1 r0 r1 → Q2 r0 r1) : w_isInContext_2b R21 Q1 x1 x2 u → pw_isInContext_2b R22 Q2 x1 x2 u := (rd_wp fun _ => (br_wp (zt_wp (hQ _ _)) (bd_wp (rd_wp fun _ => (br_wp (ov_wp (hR2 _ _ _)) (zt_wp (hQ _ _)))))))
def pw_isInContext_2 (Q : Int → iST → Prop) (x1 : Int) (x2 : Int) (u : iST) : Prop := ∃ R2 : Int → Int → iST → Prop, (∀ (x1 : Int) (x2 : Int) (u : iST), R2 x1 x2 u → pw_isInContext_2b R2 Q x1 x2 u) ∧ R2 x1 x2 u
theorem cj_w_isInContext_2 {Q1 Q2 Q3 : Int → iST → Prop}  {x1 : Int} {x2 : Int} {u : iST} (hQ : ∀ r0 r1, Q1 r0 r1 → Q2 r0 r1 → Q3 r0 r1) : w_isInContext_2 Q1 x1 x2 u → pw_isInContext_2 Q2 x1 x2 u → w_isInContext_2 Q3 x1 x2 u := by
  intro a b R3 c3
  obtain ⟨R2, c2, b2⟩ := b
  exact a (fun r0 r1 r2 => R2 r0 r1 r2 → R3 r0 r1 r2) (fun r0 r1 r2 a b => c3 r0 r1 r2 (cj_w_isInContext_2b (fun r0 r1 r2 a b => a b) hQ a (c2 r0 r1 r2 b))) b2
theorem pw_isInContext_2_i  {Q : Int → iST → Prop} {x1 : Int} {x2 : Int} {u : iST} (I : Int → Int → iST → Prop) (s : ∀ (x1 : Int) (x2 : Int) (u : iST), I x1 x2 u → pw_isInContext_2b I Q x1 x2 u) (h : I x1 x2 u) : pw_isInContext_2 Q x1 x2 u := ⟨I, s, h⟩
theorem mn_w_isInContext_2 {Q1 Q2 : Int → iST → Prop}  {x1 : Int} {x2 : Int} {u : iST} (hQ : ∀ r0 r1, Q1 r0 r1 → Q2 r0 r1) : pw_isInContext_2 Q1 x1 x2 u → pw_isInContext_2 Q2 x1 x2 u := fun ⟨R, s, h⟩ => ⟨R, fun r0 r1 r2 a => mn_w_isInContext_2b (fun r0 r1 r2 a => a) hQ (s r0 r1 r2 a), h⟩
theorem un_w_isInContext_2  {Q : Int → iST → Prop} {x1 : Int} {x2 : Int} {u : iST} : pw_isInContext_2 Q x1 x2 u → pw_isInContext_2b (fun x1 x2 u => pw_isInContext_2 Q x1 x2 u) Q x1 x2 u := fun ⟨R, s, h⟩ => mn_w_isInContext_2b (fun r0 r1 r2 a => ⟨R, s, a⟩) (fun _ _ h => h) (s _ _ _ h)
theorem fo_w_isInContext_2  {Q : Int → iST → Prop} {x1 : Int} {x2 : Int} {u : iST} : pw_isInContext_2b (fun x1 x2 u => pw_isInContext_2 Q x1 x2 u) Q x1 x2 u → pw_isInContext_2 Q x1 x2 u := fun h => ⟨fun x1 x2 u => pw_isInContext_2b (fun x1 x2 u => pw_isInContext_2 Q x1 x2 u) Q x1 x2 u, fun r0 r1 r2 a => mn_w_isInContext_2b (fun r0 r1 r2 a => un_w_isInContext_2 a) (fun _ _ h => h) a, h⟩
theorem wp_w_isInContext_2 {Q1 Q2 : Int → iST → Prop}  {x1 : Int} {x2 : Int} {u : iST} (hQ : ∀ r0 r1, Q1 r0 r1 → Q2 r0 r1) : w_isInContext_2 Q1 x1 x2 u → pw_isInContext_2 Q2 x1 x2 u := fun a => a (fun x1 x2 u => pw_isInContext_2 Q2 x1 x2 u) (fun x1 x2 u b => fo_w_isInContext_2 (wp_w_isInContext_2b (fun r0 r1 r2 a => a) hQ b))
def pw_isInContext (a0 : Int) (Q : Int → iST → Prop) (u : iST) : Prop :=
  pw_isInContext_2 Q a0 0 u
theorem cj_w_isInContext {Q1 Q2 Q3 : Int → iST → Prop}  {a0 : Int} {u : iST} (hQ : ∀ r0 r1, Q1 r0 r1 → Q2 r0 r1 → Q3 r0 r1) : w_isInContext a0 Q1 u → pw_isInContext a0 Q2 u → w_isInContext a0 Q3 u := (cj_w_isInContext_2  hQ)
theorem mn_w_isInContext {Q1 Q2 : Int → iST → Prop}  {a0 : Int} {u : iST} (hQ : ∀ r0 r1, Q1 r0 r1 → Q2 r0 r1) : pw_isInContext a0 Q1 u → pw_isInContext a0 Q2 u := (mn_w_isInContext_2  hQ)
theorem wp_w_isInContext {Q1 Q2 : Int → iST → Prop}  {a0 : Int} {u : iST} (hQ : ∀ r0 r1, Q1 r0 r1 → Q2 r0 r1) : w_isInContext a0 Q1 u → pw_isInContext a0 Q2 u := (wp_w_isInContext_2  hQ)
def pw_isDenied_2b (R2 : Int → Int → iST → Prop) (Q : Int → iST → Prop) (x1 : Int) (x2 : Int) (u : iST) : Prop :=
  rd (u.1 109) (fun v1 => 
  br (v1 ≤ x2) (
    ztp 0 (Q 0 u)) (
    bdp x2 200 (rd (u.2.1 108 x2) (fun v2 => 
    pw_isCallOf v2 15 (fun v3 u => 
    br (v3 = 0) (
      ovp (x2 + 1) (
      R2 x1 (x2 + 1) u)) (
      bdp x2 200 (rd (u.2.1 108 x2) (fun v5 => 
      bdp v5 452000 (rd (u.2.1 1 v5) (fun v6 => 
      bdp v6 452000 (rd (u.2.1 0 v6) (fun v7 => 
      br (v7 ≠ x1) (
        ovp (x2 + 1) (
        R2 x1 (x2 + 1) u)) (
        ztp 1 (Q 1 u)))))))))) u))))
theorem cj_w_isDenied_2b {Q1 Q2 Q3 : Int → iST → Prop} {R21 R22 R23 : Int → Int → iST → Prop} {x1 : Int} {x2 : Int} {u : iST} (hR2 : ∀ r0 r1 r2, R21 r0 r1 r2 → R22 r0 r1 r2 → R23 r0 r1 r2) (hQ : ∀ r0 r1, Q1 r0 r1 → Q2 r0 r1 → Q3 r0 r1) : w_isDenied_2b R21 Q1 x1 x2 u → pw_isDenied_2b R22 Q2 x1 x2 u → w_isDenied_2b R23 Q3 x1 x2 u := (rd_cj fun _ => (br_cj (zt_cj (hQ _ _)) (bd_cj (rd_cj fun _ => (cj_w_isCallOf (fun _ _ => (br_cj (ov_cj (hR2 _ _ _)) (bd_cj (rd_cj fun _ => (bd_cj (rd_cj fun _ => (bd_cj (rd_cj fun _ => (br_cj (ov_cj (hR2 _ _ _)) (zt_cj (hQ _ _))))))))))))))))
theorem mn_w_isDenied_2b {Q1 Q2 : Int → iST → Prop} {R21 R22 : Int → Int → iST → Prop} {x1 : Int} {x2 : Int} {u : iST} (hR2 : ∀ r0 r1 r2, R21 r0 r1 r2 → R22 r0 r1 r2) (hQ : ∀ r0 r1, Q1 r0 r1 → Q2 r0 r1) : pw_isDenied_2b R21 Q1 x1 x2 u → pw_isDenied_2b R22 Q2 x1 x2 u := (rd_mn fun _ => (br_mn (zt_mn (hQ _ _)) (bd_mn (rd_mn fun _ => (mn_w_isCallOf (fun _ _ => (br_mn (ov_mn (hR2 _ _ _)) (bd_mn (rd_mn fun _ => (bd_mn (rd_mn fun _ => (bd_mn (rd_mn fun _ => (br_mn (ov_mn (hR2 _ _ _)) (zt_mn (hQ _ _))))))))))))))))
theorem wp_w_isDenied_2b {Q1 Q2 : Int → iST → Prop} {R21 R22 : Int → Int → iST → Prop} {x1 : Int} {x2 : Int} {u : iST} (hR2 : ∀ r0 r1 r2, R21 r0 r1 r2 → R22 r0 r1 r2) (hQ : ∀ r0 r1, Q1 r0 r1 → Q2 r0 r1) : w_isDenied_2b R21 Q1 x1 x2 u → pw_isDenied_2b R22 Q2 x1 x2 u := (rd_wp fun _ => (br_wp (zt_wp (hQ _ _)) (bd_wp (rd_wp fun _ => (wp_w_isCallOf (fun _ _ => (br_wp (ov_wp (hR2 _ _ _)) (bd_wp (rd_wp fun _ => (bd_wp (rd_wp fun _ => (bd_wp (rd_wp fun _ => (br_wp (ov_wp (hR2 _ _ _)) (zt_wp (hQ _ _))))))))))))))))
def pw_isDenied_2 (Q : Int → iST → Prop) (x1 : Int) (x2 : Int) (u : iST) : Prop := ∃ R2 : Int → Int → iST → Prop, (∀ (x1 : Int) (x2 : Int) (u : iST), R2 x1 x2 u → pw_isDenied_2b R2 Q x1 x2 u) ∧ R2 x1 x2 u
theorem cj_w_isDenied_2 {Q1 Q2 Q3 : Int → iST → Prop}  {x1 : Int} {x2 : Int} {u : iST} (hQ : ∀ r0 r1, Q1 r0 r1 → Q2 r0 r1 → Q3 r0 r1) : w_isDenied_2 Q1 x1 x2 u → pw_isDenied_2 Q2 x1 x2 u → w_isDenied_2 Q3 x1 x2 u := by
  intro a b R3 c3
  obtain ⟨R2, c2, b2⟩ := b
  exact a (fun r0 r1 r2 => R2 r0 r1 r2 → R3 r0 r1 r2) (fun r0 r1 r2 a b => c3 r0 r1 r2 (cj_w_isDenied_2b (fun r0 r1 r2 a b => a b) hQ a (c2 r0 r1 r2 b))) b2
theorem pw_isDenied_2_i  {Q : Int → iST → Prop} {x1 : Int} {x2 : Int} {u : iST} (I : Int → Int → iST → Prop) (s : ∀ (x1 : Int) (x2 : Int) (u : iST), I x1 x2 u → pw_isDenied_2b I Q x1 x2 u) (h : I x1 x2 u) : pw_isDenied_2 Q x1 x2 u := ⟨I, s, h⟩
theorem mn_w_isDenied_2 {Q1 Q2 : Int → iST → Prop}  {x1 : Int} {x2 : Int} {u : iST} (hQ : ∀ r0 r1, Q1 r0 r1 → Q2 r0 r1) : pw_isDenied_2 Q1 x1 x2 u → pw_isDenied_2 Q2 x1 x2 u := fun ⟨R, s, h⟩ => ⟨R, fun r0 r1 r2 a => mn_w_isDenied_2b (fun r0 r1 r2 a => a) hQ (s r0 r1 r2 a), h⟩
theorem un_w_isDenied_2  {Q : Int → iST → Prop} {x1 : Int} {x2 : Int} {u : iST} : pw_isDenied_2 Q x1 x2 u → pw_isDenied_2b (fun x1 x2 u => pw_isDenied_2 Q x1 x2 u) Q x1 x2 u := fun ⟨R, s, h⟩ => mn_w_isDenied_2b (fun r0 r1 r2 a => ⟨R, s, a⟩) (fun _ _ h => h) (s _ _ _ h)
theorem fo_w_isDenied_2  {Q : Int → iST → Prop} {x1 : Int} {x2 : Int} {u : iST} : pw_isDenied_2b (fun x1 x2 u => pw_isDenied_2 Q x1 x2 u) Q x1 x2 u → pw_isDenied_2 Q x1 x2 u := fun h => ⟨fun x1 x2 u => pw_isDenied_2b (fun x1 x2 u => pw_isDenied_2 Q x1 x2 u) Q x1 x2 u, fun r0 r1 r2 a => mn_w_isDenied_2b (fun r0 r1 r2 a => un_w_isDenied_2 a) (fun _ _ h => h) a, h⟩
theorem wp_w_isDenied_2 {Q1 Q2 : Int → iST → Prop}  {x1 : Int} {x2 : Int} {u : iST} (hQ : ∀ r0 r1, Q1 r0 r1 → Q2 r0 r1) : w_isDenied_2 Q1 x1 x2 u → pw_isDenied_2 Q2 x1 x2 u := fun a => a (fun x1 x2 u => pw_isDenied_2 Q2 x1 x2 u) (fun x1 x2 u b => fo_w_isDenied_2 (wp_w_isDenied_2b (fun r0 r1 r2 a => a) hQ b))
def pw_isDenied (a0 : Int) (Q : Int → iST → Prop) (u : iST) : Prop :=
  pw_isDenied_2 Q a0 0 u
theorem cj_w_isDenied {Q1 Q2 Q3 : Int → iST → Prop}  {a0 : Int} {u : iST} (hQ : ∀ r0 r1, Q1 r0 r1 → Q2 r0 r1 → Q3 r0 r1) : w_isDenied a0 Q1 u → pw_isDenied a0 Q2 u → w_isDenied a0 Q3 u := (cj_w_isDenied_2  hQ)
theorem mn_w_isDenied {Q1 Q2 : Int → iST → Prop}  {a0 : Int} {u : iST} (hQ : ∀ r0 r1, Q1 r0 r1 → Q2 r0 r1) : pw_isDenied a0 Q1 u → pw_isDenied a0 Q2 u := (mn_w_isDenied_2  hQ)
theorem wp_w_isDenied {Q1 Q2 : Int → iST → Prop}  {a0 : Int} {u : iST} (hQ : ∀ r0 r1, Q1 r0 r1 → Q2 r0 r1) : w_isDenied a0 Q1 u → pw_isDenied a0 Q2 u := (wp_w_isDenied_2  hQ)
def pw_lookedUp_103 (R34 : Int → Int → iST → Prop) (Q : Int → iST → Prop) (x1 : Int) (x3 : Int) (x4 : Int) (x5 : Int) (u : iST) : Prop :=
  br (x5 ≠ x1) (
    ovp (x3 + 1) (
    R34 x1 (x3 + 1) u)) (
    pw_isConstant x4 (fun v11 u => 
    br (v11 = 0) (
      ovp (x3 + 1) (
      R34 x1 (x3 + 1) u)) (
      Q x4 u)) u)
theorem cj_w_lookedUp_103 {Q1 Q2 Q3 : Int → iST → Prop} {R341 R342 R343 : Int → Int → iST → Prop} {x1 : Int} {x3 : Int} {x4 : Int} {x5 : Int} {u : iST} (hR34 : ∀ r0 r1 r2, R341 r0 r1 r2 → R342 r0 r1 r2 → R343 r0 r1 r2) (hQ : ∀ r0 r1, Q1 r0 r1 → Q2 r0 r1 → Q3 r0 r1) : w_lookedUp_103 R341 Q1 x1 x3 x4 x5 u → pw_lookedUp_103 R342 Q2 x1 x3 x4 x5 u → w_lookedUp_103 R343 Q3 x1 x3 x4 x5 u := (br_cj (ov_cj (hR34 _ _ _)) (cj_w_isConstant (fun _ _ => (br_cj (ov_cj (hR34 _ _ _)) (hQ _ _)))))
theorem mn_w_lookedUp_103 {Q1 Q2 : Int → iST → Prop} {R341 R342 : Int → Int → iST → Prop} {x1 : Int} {x3 : Int} {x4 : Int} {x5 : Int} {u : iST} (hR34 : ∀ r0 r1 r2, R341 r0 r1 r2 → R342 r0 r1 r2) (hQ : ∀ r0 r1, Q1 r0 r1 → Q2 r0 r1) : pw_lookedUp_103 R341 Q1 x1 x3 x4 x5 u → pw_lookedUp_103 R342 Q2 x1 x3 x4 x5 u := (br_mn (ov_mn (hR34 _ _ _)) (mn_w_isConstant (fun _ _ => (br_mn (ov_mn (hR34 _ _ _)) (hQ _ _)))))
theorem wp_w_lookedUp_103 {Q1 Q2 : Int → iST → Prop} {R341 R342 : Int → Int → iST → Prop} {x1 : Int} {x3 : Int} {x4 : Int} {x5 : Int} {u : iST} (hR34 : ∀ r0 r1 r2, R341 r0 r1 r2 → R342 r0 r1 r2) (hQ : ∀ r0 r1, Q1 r0 r1 → Q2 r0 r1) : w_lookedUp_103 R341 Q1 x1 x3 x4 x5 u → pw_lookedUp_103 R342 Q2 x1 x3 x4 x5 u := (br_wp (ov_wp (hR34 _ _ _)) (wp_w_isConstant (fun _ _ => (br_wp (ov_wp (hR34 _ _ _)) (hQ _ _)))))
def pw_lookedUp_34b (R34 : Int → Int → iST → Prop) (Q : Int → iST → Prop) (x1 : Int) (x3 : Int) (u : iST) : Prop :=
  rd (u.1 109) (fun v3 => 
  br (v3 ≤ x3) (
    Q x1 u) (
    bdp x3 200 (rd (u.2.1 108 x3) (fun v4 => 
    pw_isCallOf v4 4 (fun v5 u => 
    br (v5 ≠ 0) (
      bdp x3 200 (rd (u.2.1 108 x3) (fun v6 => 
      pw_term v6 1 (fun v7 u => 
      bdp x3 200 (rd (u.2.1 108 x3) (fun v8 => 
      pw_term v8 2 (fun v9 u => 
      br (v7 ≠ x1) (
        pw_lookedUp_103 R34 Q x1 x3 v7 v9 u) (
        pw_isConstant v9 (fun v13 u => 
        br (v13 = 0) (
          pw_lookedUp_103 R34 Q x1 x3 v7 v9 u) (
          Q v9 u)) u)) u))) u))) (
      ovp (x3 + 1) (
      R34 x1 (x3 + 1) u))) u))))
theorem cj_w_lookedUp_34b {Q1 Q2 Q3 : Int → iST → Prop} {R341 R342 R343 : Int → Int → iST → Prop} {x1 : Int} {x3 : Int} {u : iST} (hR34 : ∀ r0 r1 r2, R341 r0 r1 r2 → R342 r0 r1 r2 → R343 r0 r1 r2) (hQ : ∀ r0 r1, Q1 r0 r1 → Q2 r0 r1 → Q3 r0 r1) : w_lookedUp_34b R341 Q1 x1 x3 u → pw_lookedUp_34b R342 Q2 x1 x3 u → w_lookedUp_34b R343 Q3 x1 x3 u := (rd_cj fun _ => (br_cj (hQ _ _) (bd_cj (rd_cj fun _ => (cj_w_isCallOf (fun _ _ => (br_cj (bd_cj (rd_cj fun _ => (cj_w_term (fun _ _ => (bd_cj (rd_cj fun _ => (cj_w_term (fun _ _ => (br_cj (cj_w_lookedUp_103 hR34 hQ) (cj_w_isConstant (fun _ _ => (br_cj (cj_w_lookedUp_103 hR34 hQ) (hQ _ _))))))))))))) (ov_cj (hR34 _ _ _)))))))))
theorem mn_w_lookedUp_34b {Q1 Q2 : Int → iST → Prop} {R341 R342 : Int → Int → iST → Prop} {x1 : Int} {x3 : Int} {u : iST} (hR34 : ∀ r0 r1 r2, R341 r0 r1 r2 → R342 r0 r1 r2) (hQ : ∀ r0 r1, Q1 r0 r1 → Q2 r0 r1) : pw_lookedUp_34b R341 Q1 x1 x3 u → pw_lookedUp_34b R342 Q2 x1 x3 u := (rd_mn fun _ => (br_mn (hQ _ _) (bd_mn (rd_mn fun _ => (mn_w_isCallOf (fun _ _ => (br_mn (bd_mn (rd_mn fun _ => (mn_w_term (fun _ _ => (bd_mn (rd_mn fun _ => (mn_w_term (fun _ _ => (br_mn (mn_w_lookedUp_103 hR34 hQ) (mn_w_isConstant (fun _ _ => (br_mn (mn_w_lookedUp_103 hR34 hQ) (hQ _ _))))))))))))) (ov_mn (hR34 _ _ _)))))))))
theorem wp_w_lookedUp_34b {Q1 Q2 : Int → iST → Prop} {R341 R342 : Int → Int → iST → Prop} {x1 : Int} {x3 : Int} {u : iST} (hR34 : ∀ r0 r1 r2, R341 r0 r1 r2 → R342 r0 r1 r2) (hQ : ∀ r0 r1, Q1 r0 r1 → Q2 r0 r1) : w_lookedUp_34b R341 Q1 x1 x3 u → pw_lookedUp_34b R342 Q2 x1 x3 u := (rd_wp fun _ => (br_wp (hQ _ _) (bd_wp (rd_wp fun _ => (wp_w_isCallOf (fun _ _ => (br_wp (bd_wp (rd_wp fun _ => (wp_w_term (fun _ _ => (bd_wp (rd_wp fun _ => (wp_w_term (fun _ _ => (br_wp (wp_w_lookedUp_103 hR34 hQ) (wp_w_isConstant (fun _ _ => (br_wp (wp_w_lookedUp_103 hR34 hQ) (hQ _ _))))))))))))) (ov_wp (hR34 _ _ _)))))))))
def pw_lookedUp_34 (Q : Int → iST → Prop) (x1 : Int) (x3 : Int) (u : iST) : Prop := ∃ R34 : Int → Int → iST → Prop, (∀ (x1 : Int) (x3 : Int) (u : iST), R34 x1 x3 u → pw_lookedUp_34b R34 Q x1 x3 u) ∧ R34 x1 x3 u
theorem cj_w_lookedUp_34 {Q1 Q2 Q3 : Int → iST → Prop}  {x1 : Int} {x3 : Int} {u : iST} (hQ : ∀ r0 r1, Q1 r0 r1 → Q2 r0 r1 → Q3 r0 r1) : w_lookedUp_34 Q1 x1 x3 u → pw_lookedUp_34 Q2 x1 x3 u → w_lookedUp_34 Q3 x1 x3 u := by
  intro a b R3 c3
  obtain ⟨R2, c2, b2⟩ := b
  exact a (fun r0 r1 r2 => R2 r0 r1 r2 → R3 r0 r1 r2) (fun r0 r1 r2 a b => c3 r0 r1 r2 (cj_w_lookedUp_34b (fun r0 r1 r2 a b => a b) hQ a (c2 r0 r1 r2 b))) b2
theorem pw_lookedUp_34_i  {Q : Int → iST → Prop} {x1 : Int} {x3 : Int} {u : iST} (I : Int → Int → iST → Prop) (s : ∀ (x1 : Int) (x3 : Int) (u : iST), I x1 x3 u → pw_lookedUp_34b I Q x1 x3 u) (h : I x1 x3 u) : pw_lookedUp_34 Q x1 x3 u := ⟨I, s, h⟩
theorem mn_w_lookedUp_34 {Q1 Q2 : Int → iST → Prop}  {x1 : Int} {x3 : Int} {u : iST} (hQ : ∀ r0 r1, Q1 r0 r1 → Q2 r0 r1) : pw_lookedUp_34 Q1 x1 x3 u → pw_lookedUp_34 Q2 x1 x3 u := fun ⟨R, s, h⟩ => ⟨R, fun r0 r1 r2 a => mn_w_lookedUp_34b (fun r0 r1 r2 a => a) hQ (s r0 r1 r2 a), h⟩
theorem un_w_lookedUp_34  {Q : Int → iST → Prop} {x1 : Int} {x3 : Int} {u : iST} : pw_lookedUp_34 Q x1 x3 u → pw_lookedUp_34b (fun x1 x3 u => pw_lookedUp_34 Q x1 x3 u) Q x1 x3 u := fun ⟨R, s, h⟩ => mn_w_lookedUp_34b (fun r0 r1 r2 a => ⟨R, s, a⟩) (fun _ _ h => h) (s _ _ _ h)
theorem fo_w_lookedUp_34  {Q : Int → iST → Prop} {x1 : Int} {x3 : Int} {u : iST} : pw_lookedUp_34b (fun x1 x3 u => pw_lookedUp_34 Q x1 x3 u) Q x1 x3 u → pw_lookedUp_34 Q x1 x3 u := fun h => ⟨fun x1 x3 u => pw_lookedUp_34b (fun x1 x3 u => pw_lookedUp_34 Q x1 x3 u) Q x1 x3 u, fun r0 r1 r2 a => mn_w_lookedUp_34b (fun r0 r1 r2 a => un_w_lookedUp_34 a) (fun _ _ h => h) a, h⟩
theorem wp_w_lookedUp_34 {Q1 Q2 : Int → iST → Prop}  {x1 : Int} {x3 : Int} {u : iST} (hQ : ∀ r0 r1, Q1 r0 r1 → Q2 r0 r1) : w_lookedUp_34 Q1 x1 x3 u → pw_lookedUp_34 Q2 x1 x3 u := fun a => a (fun x1 x3 u => pw_lookedUp_34 Q2 x1 x3 u) (fun x1 x3 u b => fo_w_lookedUp_34 (wp_w_lookedUp_34b (fun r0 r1 r2 a => a) hQ b))
def pw_lookedUp_22 (Q : Int → iST → Prop) (x1 : Int) (u : iST) : Prop :=
  pw_isDenied x1 (fun v2 u => 
  br (v2 = 0) (
    pw_lookedUp_34 Q x1 0 u) (
    Q 0 u)) u
theorem cj_w_lookedUp_22 {Q1 Q2 Q3 : Int → iST → Prop}  {x1 : Int} {u : iST} (hQ : ∀ r0 r1, Q1 r0 r1 → Q2 r0 r1 → Q3 r0 r1) : w_lookedUp_22 Q1 x1 u → pw_lookedUp_22 Q2 x1 u → w_lookedUp_22 Q3 x1 u := (cj_w_isDenied (fun _ _ => (br_cj (cj_w_lookedUp_34  hQ) (hQ _ _))))
theorem mn_w_lookedUp_22 {Q1 Q2 : Int → iST → Prop}  {x1 : Int} {u : iST} (hQ : ∀ r0 r1, Q1 r0 r1 → Q2 r0 r1) : pw_lookedUp_22 Q1 x1 u → pw_lookedUp_22 Q2 x1 u := (mn_w_isDenied (fun _ _ => (br_mn (mn_w_lookedUp_34  hQ) (hQ _ _))))
theorem wp_w_lookedUp_22 {Q1 Q2 : Int → iST → Prop}  {x1 : Int} {u : iST} (hQ : ∀ r0 r1, Q1 r0 r1 → Q2 r0 r1) : w_lookedUp_22 Q1 x1 u → pw_lookedUp_22 Q2 x1 u := (wp_w_isDenied (fun _ _ => (br_wp (wp_w_lookedUp_34  hQ) (hQ _ _))))
def pw_lookedUp (a0 : Int) (a1 : Int) (Q : Int → iST → Prop) (u : iST) : Prop :=
  pw_isInContext a0 (fun v1 u => 
  br (v1 = 0) (
    pw_lookedUp_22 Q a0 u) (
    br (a1 ≠ 0) (
      Q 1 u) (
      pw_isBoolean a0 (fun v15 u => 
      br (v15 = 0) (
        pw_lookedUp_22 Q a0 u) (
        Q 1 u)) u))) u
theorem cj_w_lookedUp {Q1 Q2 Q3 : Int → iST → Prop}  {a0 : Int} {a1 : Int} {u : iST} (hQ : ∀ r0 r1, Q1 r0 r1 → Q2 r0 r1 → Q3 r0 r1) : w_lookedUp a0 a1 Q1 u → pw_lookedUp a0 a1 Q2 u → w_lookedUp a0 a1 Q3 u := (cj_w_isInContext (fun _ _ => (br_cj (cj_w_lookedUp_22  hQ) (br_cj (hQ _ _) (cj_w_isBoolean (fun _ _ => (br_cj (cj_w_lookedUp_22  hQ) (hQ _ _))))))))
theorem mn_w_lookedUp {Q1 Q2 : Int → iST → Prop}  {a0 : Int} {a1 : Int} {u : iST} (hQ : ∀ r0 r1, Q1 r0 r1 → Q2 r0 r1) : pw_lookedUp a0 a1 Q1 u → pw_lookedUp a0 a1 Q2 u := (mn_w_isInContext (fun _ _ => (br_mn (mn_w_lookedUp_22  hQ) (br_mn (hQ _ _) (mn_w_isBoolean (fun _ _ => (br_mn (mn_w_lookedUp_22  hQ) (hQ _ _))))))))
theorem wp_w_lookedUp {Q1 Q2 : Int → iST → Prop}  {a0 : Int} {a1 : Int} {u : iST} (hQ : ∀ r0 r1, Q1 r0 r1 → Q2 r0 r1) : w_lookedUp a0 a1 Q1 u → pw_lookedUp a0 a1 Q2 u := (wp_w_isInContext (fun _ _ => (br_wp (wp_w_lookedUp_22  hQ) (br_wp (hQ _ _) (wp_w_isBoolean (fun _ _ => (br_wp (wp_w_lookedUp_22  hQ) (hQ _ _))))))))
def pw_areConstants_7b (R7 : Int → iST → Prop) (Q : Int → iST → Prop) (x2 : Int) (u : iST) : Prop :=
  br (x2 = 0) (
    ztp 1 (Q 1 u)) (
    bdp x2 452000 (rd (u.2.1 0 x2) (fun v2 => 
    pw_isConstant v2 (fun v3 u => 
    br (v3 ≠ 0) (
      bdp x2 452000 (rd (u.2.1 1 x2) (fun v4 => 
      R7 v4 u))) (
      ztp 0 (Q 0 u))) u)))
theorem cj_w_areConstants_7b {Q1 Q2 Q3 : Int → iST → Prop} {R71 R72 R73 : Int → iST → Prop} {x2 : Int} {u : iST} (hR7 : ∀ r0 r1, R71 r0 r1 → R72 r0 r1 → R73 r0 r1) (hQ : ∀ r0 r1, Q1 r0 r1 → Q2 r0 r1 → Q3 r0 r1) : w_areConstants_7b R71 Q1 x2 u → pw_areConstants_7b R72 Q2 x2 u → w_areConstants_7b R73 Q3 x2 u := (br_cj (zt_cj (hQ _ _)) (bd_cj (rd_cj fun _ => (cj_w_isConstant (fun _ _ => (br_cj (bd_cj (rd_cj fun _ => (hR7 _ _))) (zt_cj (hQ _ _))))))))
theorem mn_w_areConstants_7b {Q1 Q2 : Int → iST → Prop} {R71 R72 : Int → iST → Prop} {x2 : Int} {u : iST} (hR7 : ∀ r0 r1, R71 r0 r1 → R72 r0 r1) (hQ : ∀ r0 r1, Q1 r0 r1 → Q2 r0 r1) : pw_areConstants_7b R71 Q1 x2 u → pw_areConstants_7b R72 Q2 x2 u := (br_mn (zt_mn (hQ _ _)) (bd_mn (rd_mn fun _ => (mn_w_isConstant (fun _ _ => (br_mn (bd_mn (rd_mn fun _ => (hR7 _ _))) (zt_mn (hQ _ _))))))))
theorem wp_w_areConstants_7b {Q1 Q2 : Int → iST → Prop} {R71 R72 : Int → iST → Prop} {x2 : Int} {u : iST} (hR7 : ∀ r0 r1, R71 r0 r1 → R72 r0 r1) (hQ : ∀ r0 r1, Q1 r0 r1 → Q2 r0 r1) : w_areConstants_7b R71 Q1 x2 u → pw_areConstants_7b R72 Q2 x2 u := (br_wp (zt_wp (hQ _ _)) (bd_wp (rd_wp fun _ => (wp_w_isConstant (fun _ _ => (br_wp (bd_wp (rd_wp fun _ => (hR7 _ _))) (zt_wp (hQ _ _))))))))
def pw_areConstants_7 (Q : Int → iST → Prop) (x2 : Int) (u : iST) : Prop := ∃ R7 : Int → iST → Prop, (∀ (x2 : Int) (u : iST), R7 x2 u → pw_areConstants_7b R7 Q x2 u) ∧ R7 x2 u
theorem cj_w_areConstants_7 {Q1 Q2 Q3 : Int → iST → Prop}  {x2 : Int} {u : iST} (hQ : ∀ r0 r1, Q1 r0 r1 → Q2 r0 r1 → Q3 r0 r1) : w_areConstants_7 Q1 x2 u → pw_areConstants_7 Q2 x2 u → w_areConstants_7 Q3 x2 u := by
  intro a b R3 c3
  obtain ⟨R2, c2, b2⟩ := b
  exact a (fun r0 r1 => R2 r0 r1 → R3 r0 r1) (fun r0 r1 a b => c3 r0 r1 (cj_w_areConstants_7b (fun r0 r1 a b => a b) hQ a (c2 r0 r1 b))) b2
theorem pw_areConstants_7_i  {Q : Int → iST → Prop} {x2 : Int} {u : iST} (I : Int → iST → Prop) (s : ∀ (x2 : Int) (u : iST), I x2 u → pw_areConstants_7b I Q x2 u) (h : I x2 u) : pw_areConstants_7 Q x2 u := ⟨I, s, h⟩
theorem mn_w_areConstants_7 {Q1 Q2 : Int → iST → Prop}  {x2 : Int} {u : iST} (hQ : ∀ r0 r1, Q1 r0 r1 → Q2 r0 r1) : pw_areConstants_7 Q1 x2 u → pw_areConstants_7 Q2 x2 u := fun ⟨R, s, h⟩ => ⟨R, fun r0 r1 a => mn_w_areConstants_7b (fun r0 r1 a => a) hQ (s r0 r1 a), h⟩
theorem un_w_areConstants_7  {Q : Int → iST → Prop} {x2 : Int} {u : iST} : pw_areConstants_7 Q x2 u → pw_areConstants_7b (fun x2 u => pw_areConstants_7 Q x2 u) Q x2 u := fun ⟨R, s, h⟩ => mn_w_areConstants_7b (fun r0 r1 a => ⟨R, s, a⟩) (fun _ _ h => h) (s _ _ h)
theorem fo_w_areConstants_7  {Q : Int → iST → Prop} {x2 : Int} {u : iST} : pw_areConstants_7b (fun x2 u => pw_areConstants_7 Q x2 u) Q x2 u → pw_areConstants_7 Q x2 u := fun h => ⟨fun x2 u => pw_areConstants_7b (fun x2 u => pw_areConstants_7 Q x2 u) Q x2 u, fun r0 r1 a => mn_w_areConstants_7b (fun r0 r1 a => un_w_areConstants_7 a) (fun _ _ h => h) a, h⟩
theorem wp_w_areConstants_7 {Q1 Q2 : Int → iST → Prop}  {x2 : Int} {u : iST} (hQ : ∀ r0 r1, Q1 r0 r1 → Q2 r0 r1) : w_areConstants_7 Q1 x2 u → pw_areConstants_7 Q2 x2 u := fun a => a (fun x2 u => pw_areConstants_7 Q2 x2 u) (fun x2 u b => fo_w_areConstants_7 (wp_w_areConstants_7b (fun r0 r1 a => a) hQ b))
def pw_areConstants (a0 : Int) (Q : Int → iST → Prop) (u : iST) : Prop :=
  bdp a0 452000 (rd (u.2.1 1 a0) (fun v1 => 
  pw_areConstants_7 Q v1 u))
theorem cj_w_areConstants {Q1 Q2 Q3 : Int → iST → Prop}  {a0 : Int} {u : iST} (hQ : ∀ r0 r1, Q1 r0 r1 → Q2 r0 r1 → Q3 r0 r1) : w_areConstants a0 Q1 u → pw_areConstants a0 Q2 u → w_areConstants a0 Q3 u := (bd_cj (rd_cj fun _ => (cj_w_areConstants_7  hQ)))
theorem mn_w_areConstants {Q1 Q2 : Int → iST → Prop}  {a0 : Int} {u : iST} (hQ : ∀ r0 r1, Q1 r0 r1 → Q2 r0 r1) : pw_areConstants a0 Q1 u → pw_areConstants a0 Q2 u := (bd_mn (rd_mn fun _ => (mn_w_areConstants_7  hQ)))
theorem wp_w_areConstants {Q1 Q2 : Int → iST → Prop}  {a0 : Int} {u : iST} (hQ : ∀ r0 r1, Q1 r0 r1 → Q2 r0 r1) : w_areConstants a0 Q1 u → pw_areConstants a0 Q2 u := (bd_wp (rd_wp fun _ => (wp_w_areConstants_7  hQ)))
def pw_constantValue_12b (R12 : Int → Int → iST → Prop) (Q : Int → iST → Prop) (x2 : Int) (x3 : Int) (u : iST) : Prop :=
  br (x3 = 0) (
    pw_basic x2 0 (fun v2 u => 
    Q v2 u) u) (
    rd (u.1 87) (fun v3 => 
    bdp x3 452000 (rd (u.2.1 0 x3) (fun v4 => 
    pw_valueOf v4 (fun v5 u => 
    bdp v3 2400 (sw (iA u 86 v3 v5) (fun u => 
    rd (u.1 87) (fun v6 => 
    ovp (v6 + 1) (
    sw (iI u 87 (v6 + 1)) (fun u => 
    bdp x3 452000 (rd (u.2.1 1 x3) (fun v8 => 
    R12 x2 v8 u)))))))) u))))
theorem cj_w_constantValue_12b {Q1 Q2 Q3 : Int → iST → Prop} {R121 R122 R123 : Int → Int → iST → Prop} {x2 : Int} {x3 : Int} {u : iST} (hR12 : ∀ r0 r1 r2, R121 r0 r1 r2 → R122 r0 r1 r2 → R123 r0 r1 r2) (hQ : ∀ r0 r1, Q1 r0 r1 → Q2 r0 r1 → Q3 r0 r1) : w_constantValue_12b R121 Q1 x2 x3 u → pw_constantValue_12b R122 Q2 x2 x3 u → w_constantValue_12b R123 Q3 x2 x3 u := (br_cj (cj_w_basic (fun _ _ => (hQ _ _))) (rd_cj fun _ => (bd_cj (rd_cj fun _ => (cj_w_valueOf (fun _ _ => (bd_cj (sw_cj fun _ => (rd_cj fun _ => (ov_cj (sw_cj fun _ => (bd_cj (rd_cj fun _ => (hR12 _ _ _))))))))))))))
theorem mn_w_constantValue_12b {Q1 Q2 : Int → iST → Prop} {R121 R122 : Int → Int → iST → Prop} {x2 : Int} {x3 : Int} {u : iST} (hR12 : ∀ r0 r1 r2, R121 r0 r1 r2 → R122 r0 r1 r2) (hQ : ∀ r0 r1, Q1 r0 r1 → Q2 r0 r1) : pw_constantValue_12b R121 Q1 x2 x3 u → pw_constantValue_12b R122 Q2 x2 x3 u := (br_mn (mn_w_basic (fun _ _ => (hQ _ _))) (rd_mn fun _ => (bd_mn (rd_mn fun _ => (mn_w_valueOf (fun _ _ => (bd_mn (sw_mn fun _ => (rd_mn fun _ => (ov_mn (sw_mn fun _ => (bd_mn (rd_mn fun _ => (hR12 _ _ _))))))))))))))
theorem wp_w_constantValue_12b {Q1 Q2 : Int → iST → Prop} {R121 R122 : Int → Int → iST → Prop} {x2 : Int} {x3 : Int} {u : iST} (hR12 : ∀ r0 r1 r2, R121 r0 r1 r2 → R122 r0 r1 r2) (hQ : ∀ r0 r1, Q1 r0 r1 → Q2 r0 r1) : w_constantValue_12b R121 Q1 x2 x3 u → pw_constantValue_12b R122 Q2 x2 x3 u := (br_wp (wp_w_basic (fun _ _ => (hQ _ _))) (rd_wp fun _ => (bd_wp (rd_wp fun _ => (wp_w_valueOf (fun _ _ => (bd_wp (sw_wp fun _ => (rd_wp fun _ => (ov_wp (sw_wp fun _ => (bd_wp (rd_wp fun _ => (hR12 _ _ _))))))))))))))
def pw_constantValue_12 (Q : Int → iST → Prop) (x2 : Int) (x3 : Int) (u : iST) : Prop := ∃ R12 : Int → Int → iST → Prop, (∀ (x2 : Int) (x3 : Int) (u : iST), R12 x2 x3 u → pw_constantValue_12b R12 Q x2 x3 u) ∧ R12 x2 x3 u
theorem cj_w_constantValue_12 {Q1 Q2 Q3 : Int → iST → Prop}  {x2 : Int} {x3 : Int} {u : iST} (hQ : ∀ r0 r1, Q1 r0 r1 → Q2 r0 r1 → Q3 r0 r1) : w_constantValue_12 Q1 x2 x3 u → pw_constantValue_12 Q2 x2 x3 u → w_constantValue_12 Q3 x2 x3 u := by
  intro a b R3 c3
  obtain ⟨R2, c2, b2⟩ := b
  exact a (fun r0 r1 r2 => R2 r0 r1 r2 → R3 r0 r1 r2) (fun r0 r1 r2 a b => c3 r0 r1 r2 (cj_w_constantValue_12b (fun r0 r1 r2 a b => a b) hQ a (c2 r0 r1 r2 b))) b2
theorem pw_constantValue_12_i  {Q : Int → iST → Prop} {x2 : Int} {x3 : Int} {u : iST} (I : Int → Int → iST → Prop) (s : ∀ (x2 : Int) (x3 : Int) (u : iST), I x2 x3 u → pw_constantValue_12b I Q x2 x3 u) (h : I x2 x3 u) : pw_constantValue_12 Q x2 x3 u := ⟨I, s, h⟩
theorem mn_w_constantValue_12 {Q1 Q2 : Int → iST → Prop}  {x2 : Int} {x3 : Int} {u : iST} (hQ : ∀ r0 r1, Q1 r0 r1 → Q2 r0 r1) : pw_constantValue_12 Q1 x2 x3 u → pw_constantValue_12 Q2 x2 x3 u := fun ⟨R, s, h⟩ => ⟨R, fun r0 r1 r2 a => mn_w_constantValue_12b (fun r0 r1 r2 a => a) hQ (s r0 r1 r2 a), h⟩
theorem un_w_constantValue_12  {Q : Int → iST → Prop} {x2 : Int} {x3 : Int} {u : iST} : pw_constantValue_12 Q x2 x3 u → pw_constantValue_12b (fun x2 x3 u => pw_constantValue_12 Q x2 x3 u) Q x2 x3 u := fun ⟨R, s, h⟩ => mn_w_constantValue_12b (fun r0 r1 r2 a => ⟨R, s, a⟩) (fun _ _ h => h) (s _ _ _ h)
theorem fo_w_constantValue_12  {Q : Int → iST → Prop} {x2 : Int} {x3 : Int} {u : iST} : pw_constantValue_12b (fun x2 x3 u => pw_constantValue_12 Q x2 x3 u) Q x2 x3 u → pw_constantValue_12 Q x2 x3 u := fun h => ⟨fun x2 x3 u => pw_constantValue_12b (fun x2 x3 u => pw_constantValue_12 Q x2 x3 u) Q x2 x3 u, fun r0 r1 r2 a => mn_w_constantValue_12b (fun r0 r1 r2 a => un_w_constantValue_12 a) (fun _ _ h => h) a, h⟩
theorem wp_w_constantValue_12 {Q1 Q2 : Int → iST → Prop}  {x2 : Int} {x3 : Int} {u : iST} (hQ : ∀ r0 r1, Q1 r0 r1 → Q2 r0 r1) : w_constantValue_12 Q1 x2 x3 u → pw_constantValue_12 Q2 x2 x3 u := fun a => a (fun x2 x3 u => pw_constantValue_12 Q2 x2 x3 u) (fun x2 x3 u b => fo_w_constantValue_12 (wp_w_constantValue_12b (fun r0 r1 r2 a => a) hQ b))
def pw_constantValue (a0 : Int) (a1 : Int) (Q : Int → iST → Prop) (u : iST) : Prop :=
  sw (iI u 87 0) (fun u => 
  bdp a0 452000 (rd (u.2.1 1 a0) (fun v1 => 
  pw_constantValue_12 Q a1 v1 u)))
theorem cj_w_constantValue {Q1 Q2 Q3 : Int → iST → Prop}  {a0 : Int} {a1 : Int} {u : iST} (hQ : ∀ r0 r1, Q1 r0 r1 → Q2 r0 r1 → Q3 r0 r1) : w_constantValue a0 a1 Q1 u → pw_constantValue a0 a1 Q2 u → w_constantValue a0 a1 Q3 u := (sw_cj fun _ => (bd_cj (rd_cj fun _ => (cj_w_constantValue_12  hQ))))
theorem mn_w_constantValue {Q1 Q2 : Int → iST → Prop}  {a0 : Int} {a1 : Int} {u : iST} (hQ : ∀ r0 r1, Q1 r0 r1 → Q2 r0 r1) : pw_constantValue a0 a1 Q1 u → pw_constantValue a0 a1 Q2 u := (sw_mn fun _ => (bd_mn (rd_mn fun _ => (mn_w_constantValue_12  hQ))))
theorem wp_w_constantValue {Q1 Q2 : Int → iST → Prop}  {a0 : Int} {a1 : Int} {u : iST} (hQ : ∀ r0 r1, Q1 r0 r1 → Q2 r0 r1) : w_constantValue a0 a1 Q1 u → pw_constantValue a0 a1 Q2 u := (sw_wp fun _ => (bd_wp (rd_wp fun _ => (wp_w_constantValue_12  hQ))))
def pw_isNumbered (a0 : Int) (Q : Int → iST → Prop) (u : iST) : Prop :=
  pw_isCallOf a0 7 (fun v1 u => 
  br (v1 ≠ 0) (
    ztp 1 (Q 1 u)) (
    pw_isCallOf a0 8 (fun v2 u => 
    br (v2 ≠ 0) (
      ztp 1 (Q 1 u)) (
      pw_isCallOf a0 16 (fun v3 u => 
      br (v3 = 0) (
        ztp 0 (Q 0 u)) (
        ztp 1 (Q 1 u))) u)) u)) u
theorem cj_w_isNumbered {Q1 Q2 Q3 : Int → iST → Prop}  {a0 : Int} {u : iST} (hQ : ∀ r0 r1, Q1 r0 r1 → Q2 r0 r1 → Q3 r0 r1) : w_isNumbered a0 Q1 u → pw_isNumbered a0 Q2 u → w_isNumbered a0 Q3 u := (cj_w_isCallOf (fun _ _ => (br_cj (zt_cj (hQ _ _)) (cj_w_isCallOf (fun _ _ => (br_cj (zt_cj (hQ _ _)) (cj_w_isCallOf (fun _ _ => (br_cj (zt_cj (hQ _ _)) (zt_cj (hQ _ _)))))))))))
theorem mn_w_isNumbered {Q1 Q2 : Int → iST → Prop}  {a0 : Int} {u : iST} (hQ : ∀ r0 r1, Q1 r0 r1 → Q2 r0 r1) : pw_isNumbered a0 Q1 u → pw_isNumbered a0 Q2 u := (mn_w_isCallOf (fun _ _ => (br_mn (zt_mn (hQ _ _)) (mn_w_isCallOf (fun _ _ => (br_mn (zt_mn (hQ _ _)) (mn_w_isCallOf (fun _ _ => (br_mn (zt_mn (hQ _ _)) (zt_mn (hQ _ _)))))))))))
theorem wp_w_isNumbered {Q1 Q2 : Int → iST → Prop}  {a0 : Int} {u : iST} (hQ : ∀ r0 r1, Q1 r0 r1 → Q2 r0 r1) : w_isNumbered a0 Q1 u → pw_isNumbered a0 Q2 u := (wp_w_isCallOf (fun _ _ => (br_wp (zt_wp (hQ _ _)) (wp_w_isCallOf (fun _ _ => (br_wp (zt_wp (hQ _ _)) (wp_w_isCallOf (fun _ _ => (br_wp (zt_wp (hQ _ _)) (zt_wp (hQ _ _)))))))))))
def pw_plain_150 (Q : Int → iST → Prop) (x3 : Int) (x6 : Int) (u : iST) : Prop :=
  br (x6 = 0) (
    Q (-1) u) (
    pw_isConstant x3 (fun v5 u => 
    br (v5 = 0) (
      Q (-1) u) (
      pw_valueOf x3 (fun v6 u => 
      pw_isPair v6 (fun v7 u => 
      br (v7 ≠ 0) (
        Q (-1) u) (
        Q 0 u)) u) u)) u)
theorem cj_w_plain_150 {Q1 Q2 Q3 : Int → iST → Prop}  {x3 : Int} {x6 : Int} {u : iST} (hQ : ∀ r0 r1, Q1 r0 r1 → Q2 r0 r1 → Q3 r0 r1) : w_plain_150 Q1 x3 x6 u → pw_plain_150 Q2 x3 x6 u → w_plain_150 Q3 x3 x6 u := (br_cj (hQ _ _) (cj_w_isConstant (fun _ _ => (br_cj (hQ _ _) (cj_w_valueOf (fun _ _ => (cj_w_isPair (fun _ _ => (br_cj (hQ _ _) (hQ _ _))))))))))
theorem mn_w_plain_150 {Q1 Q2 : Int → iST → Prop}  {x3 : Int} {x6 : Int} {u : iST} (hQ : ∀ r0 r1, Q1 r0 r1 → Q2 r0 r1) : pw_plain_150 Q1 x3 x6 u → pw_plain_150 Q2 x3 x6 u := (br_mn (hQ _ _) (mn_w_isConstant (fun _ _ => (br_mn (hQ _ _) (mn_w_valueOf (fun _ _ => (mn_w_isPair (fun _ _ => (br_mn (hQ _ _) (hQ _ _))))))))))
theorem wp_w_plain_150 {Q1 Q2 : Int → iST → Prop}  {x3 : Int} {x6 : Int} {u : iST} (hQ : ∀ r0 r1, Q1 r0 r1 → Q2 r0 r1) : w_plain_150 Q1 x3 x6 u → pw_plain_150 Q2 x3 x6 u := (br_wp (hQ _ _) (wp_w_isConstant (fun _ _ => (br_wp (hQ _ _) (wp_w_valueOf (fun _ _ => (wp_w_isPair (fun _ _ => (br_wp (hQ _ _) (hQ _ _))))))))))
def pw_plain_35 (Q : Int → iST → Prop) (x2 : Int) (x3 : Int) (y0 : Int) (u : iST) : Prop :=
  pw_isCallOf x3 5 (fun v3 u => 
  br (x2 = 4) (
    br (x3 ≠ y0) (
      pw_isCallOf y0 5 (fun v4 u => 
      br (v3 = 0) (
        pw_plain_150 Q x3 v4 u) (
        pw_isConstant y0 (fun v8 u => 
        br (v8 = 0) (
          pw_plain_150 Q x3 v4 u) (
          pw_valueOf y0 (fun v9 u => 
          pw_isPair v9 (fun v10 u => 
          br (v10 ≠ 0) (
            pw_plain_150 Q x3 v4 u) (
            Q 0 u)) u) u)) u)) u) (
      Q 1 u)) (
  br (x2 = 5) (
    Q (-1) u) (
  br (x2 = 6) (
    Q (-1) u) (
  br (x2 = 7) (
    Q (-1) u) (
  br (x2 = 8) (
    Q (-1) u) (
  br (x2 = 9) (
    br (x3 = y0) (
      Q 0 u) (
      br (y0 = (-1)) (
        Q (-1) u) (
        pw_isNatural y0 (fun v16 u => 
        br (v16 = 0) (
          Q (-1) u) (
          pw_value y0 (fun v17 u => 
          br (v17 ≠ 0) (
            Q (-1) u) (
            Q 0 u)) u)) u))) (
  br (x2 = 10) (
    br (v3 = 0) (
      pw_isNumbered x3 (fun v19 u => 
      br (v19 = 0) (
        Q (-1) u) (
        Q 0 u)) u) (
      Q 1 u)) (
  br (x2 = 11) (
    br (v3 = 0) (
      Q (-1) u) (
      pw_term x3 1 (fun v21 u => 
      Q v21 u) u)) (
  br (x2 = 12) (
    br (v3 = 0) (
      Q (-1) u) (
      pw_term x3 2 (fun v23 u => 
      Q v23 u) u)) (
  br (x2 = 13) (
    br (v3 = 0) (
      pw_isNumbered x3 (fun v25 u => 
      br (v25 = 0) (
        Q (-1) u) (
        Q 1 u)) u) (
      Q 0 u)) (
  br (x2 = 14) (
    br (v3 ≠ 0) (
      Q 0 u) (
      pw_isNumbered x3 (fun v27 u => 
      br (v27 = 0) (
        Q (-1) u) (
        Q 0 u)) u)) (
  Q (-1) u)))))))))))) u
theorem cj_w_plain_35 {Q1 Q2 Q3 : Int → iST → Prop}  {x2 : Int} {x3 : Int} {y0 : Int} {u : iST} (hQ : ∀ r0 r1, Q1 r0 r1 → Q2 r0 r1 → Q3 r0 r1) : w_plain_35 Q1 x2 x3 y0 u → pw_plain_35 Q2 x2 x3 y0 u → w_plain_35 Q3 x2 x3 y0 u := (cj_w_isCallOf (fun _ _ => (br_cj (br_cj (cj_w_isCallOf (fun _ _ => (br_cj (cj_w_plain_150  hQ) (cj_w_isConstant (fun _ _ => (br_cj (cj_w_plain_150  hQ) (cj_w_valueOf (fun _ _ => (cj_w_isPair (fun _ _ => (br_cj (cj_w_plain_150  hQ) (hQ _ _)))))))))))) (hQ _ _)) (br_cj (hQ _ _) (br_cj (hQ _ _) (br_cj (hQ _ _) (br_cj (hQ _ _) (br_cj (br_cj (hQ _ _) (br_cj (hQ _ _) (cj_w_isNatural (fun _ _ => (br_cj (hQ _ _) (cj_w_value (fun _ _ => (br_cj (hQ _ _) (hQ _ _))))))))) (br_cj (br_cj (cj_w_isNumbered (fun _ _ => (br_cj (hQ _ _) (hQ _ _)))) (hQ _ _)) (br_cj (br_cj (hQ _ _) (cj_w_term (fun _ _ => (hQ _ _)))) (br_cj (br_cj (hQ _ _) (cj_w_term (fun _ _ => (hQ _ _)))) (br_cj (br_cj (cj_w_isNumbered (fun _ _ => (br_cj (hQ _ _) (hQ _ _)))) (hQ _ _)) (br_cj (br_cj (hQ _ _) (cj_w_isNumbered (fun _ _ => (br_cj (hQ _ _) (hQ _ _))))) (hQ _ _))))))))))))))
theorem mn_w_plain_35 {Q1 Q2 : Int → iST → Prop}  {x2 : Int} {x3 : Int} {y0 : Int} {u : iST} (hQ : ∀ r0 r1, Q1 r0 r1 → Q2 r0 r1) : pw_plain_35 Q1 x2 x3 y0 u → pw_plain_35 Q2 x2 x3 y0 u := (mn_w_isCallOf (fun _ _ => (br_mn (br_mn (mn_w_isCallOf (fun _ _ => (br_mn (mn_w_plain_150  hQ) (mn_w_isConstant (fun _ _ => (br_mn (mn_w_plain_150  hQ) (mn_w_valueOf (fun _ _ => (mn_w_isPair (fun _ _ => (br_mn (mn_w_plain_150  hQ) (hQ _ _)))))))))))) (hQ _ _)) (br_mn (hQ _ _) (br_mn (hQ _ _) (br_mn (hQ _ _) (br_mn (hQ _ _) (br_mn (br_mn (hQ _ _) (br_mn (hQ _ _) (mn_w_isNatural (fun _ _ => (br_mn (hQ _ _) (mn_w_value (fun _ _ => (br_mn (hQ _ _) (hQ _ _))))))))) (br_mn (br_mn (mn_w_isNumbered (fun _ _ => (br_mn (hQ _ _) (hQ _ _)))) (hQ _ _)) (br_mn (br_mn (hQ _ _) (mn_w_term (fun _ _ => (hQ _ _)))) (br_mn (br_mn (hQ _ _) (mn_w_term (fun _ _ => (hQ _ _)))) (br_mn (br_mn (mn_w_isNumbered (fun _ _ => (br_mn (hQ _ _) (hQ _ _)))) (hQ _ _)) (br_mn (br_mn (hQ _ _) (mn_w_isNumbered (fun _ _ => (br_mn (hQ _ _) (hQ _ _))))) (hQ _ _))))))))))))))
theorem wp_w_plain_35 {Q1 Q2 : Int → iST → Prop}  {x2 : Int} {x3 : Int} {y0 : Int} {u : iST} (hQ : ∀ r0 r1, Q1 r0 r1 → Q2 r0 r1) : w_plain_35 Q1 x2 x3 y0 u → pw_plain_35 Q2 x2 x3 y0 u := (wp_w_isCallOf (fun _ _ => (br_wp (br_wp (wp_w_isCallOf (fun _ _ => (br_wp (wp_w_plain_150  hQ) (wp_w_isConstant (fun _ _ => (br_wp (wp_w_plain_150  hQ) (wp_w_valueOf (fun _ _ => (wp_w_isPair (fun _ _ => (br_wp (wp_w_plain_150  hQ) (hQ _ _)))))))))))) (hQ _ _)) (br_wp (hQ _ _) (br_wp (hQ _ _) (br_wp (hQ _ _) (br_wp (hQ _ _) (br_wp (br_wp (hQ _ _) (br_wp (hQ _ _) (wp_w_isNatural (fun _ _ => (br_wp (hQ _ _) (wp_w_value (fun _ _ => (br_wp (hQ _ _) (hQ _ _))))))))) (br_wp (br_wp (wp_w_isNumbered (fun _ _ => (br_wp (hQ _ _) (hQ _ _)))) (hQ _ _)) (br_wp (br_wp (hQ _ _) (wp_w_term (fun _ _ => (hQ _ _)))) (br_wp (br_wp (hQ _ _) (wp_w_term (fun _ _ => (hQ _ _)))) (br_wp (br_wp (wp_w_isNumbered (fun _ _ => (br_wp (hQ _ _) (hQ _ _)))) (hQ _ _)) (br_wp (br_wp (hQ _ _) (wp_w_isNumbered (fun _ _ => (br_wp (hQ _ _) (hQ _ _))))) (hQ _ _))))))))))))))
def pw_plain_34 (Q : Int → iST → Prop) (x2 : Int) (x3 : Int) (u : iST) : Prop :=
  pw_plain_35 Q x2 x3 (-1) u
theorem cj_w_plain_34 {Q1 Q2 Q3 : Int → iST → Prop}  {x2 : Int} {x3 : Int} {u : iST} (hQ : ∀ r0 r1, Q1 r0 r1 → Q2 r0 r1 → Q3 r0 r1) : w_plain_34 Q1 x2 x3 u → pw_plain_34 Q2 x2 x3 u → w_plain_34 Q3 x2 x3 u := (cj_w_plain_35  hQ)
theorem mn_w_plain_34 {Q1 Q2 : Int → iST → Prop}  {x2 : Int} {x3 : Int} {u : iST} (hQ : ∀ r0 r1, Q1 r0 r1 → Q2 r0 r1) : pw_plain_34 Q1 x2 x3 u → pw_plain_34 Q2 x2 x3 u := (mn_w_plain_35  hQ)
theorem wp_w_plain_34 {Q1 Q2 : Int → iST → Prop}  {x2 : Int} {x3 : Int} {u : iST} (hQ : ∀ r0 r1, Q1 r0 r1 → Q2 r0 r1) : w_plain_34 Q1 x2 x3 u → pw_plain_34 Q2 x2 x3 u := (wp_w_plain_35  hQ)
def pw_plain (a0 : Int) (Q : Int → iST → Prop) (u : iST) : Prop :=
  bdp a0 452000 (rd (u.2.1 0 a0) (fun v1 => 
  pw_term a0 1 (fun v2 u => 
  br (v1 < 4) (
    pw_plain_34 Q v1 v2 u) (
    br (9 < v1) (
      pw_plain_34 Q v1 v2 u) (
      pw_term a0 2 (fun v29 u => 
      pw_plain_35 Q v1 v2 v29 u) u))) u))
theorem cj_w_plain {Q1 Q2 Q3 : Int → iST → Prop}  {a0 : Int} {u : iST} (hQ : ∀ r0 r1, Q1 r0 r1 → Q2 r0 r1 → Q3 r0 r1) : w_plain a0 Q1 u → pw_plain a0 Q2 u → w_plain a0 Q3 u := (bd_cj (rd_cj fun _ => (cj_w_term (fun _ _ => (br_cj (cj_w_plain_34  hQ) (br_cj (cj_w_plain_34  hQ) (cj_w_term (fun _ _ => (cj_w_plain_35  hQ)))))))))
theorem mn_w_plain {Q1 Q2 : Int → iST → Prop}  {a0 : Int} {u : iST} (hQ : ∀ r0 r1, Q1 r0 r1 → Q2 r0 r1) : pw_plain a0 Q1 u → pw_plain a0 Q2 u := (bd_mn (rd_mn fun _ => (mn_w_term (fun _ _ => (br_mn (mn_w_plain_34  hQ) (br_mn (mn_w_plain_34  hQ) (mn_w_term (fun _ _ => (mn_w_plain_35  hQ)))))))))
theorem wp_w_plain {Q1 Q2 : Int → iST → Prop}  {a0 : Int} {u : iST} (hQ : ∀ r0 r1, Q1 r0 r1 → Q2 r0 r1) : w_plain a0 Q1 u → pw_plain a0 Q2 u := (bd_wp (rd_wp fun _ => (wp_w_term (fun _ _ => (br_wp (wp_w_plain_34  hQ) (br_wp (wp_w_plain_34  hQ) (wp_w_term (fun _ _ => (wp_w_plain_35  hQ)))))))))
def pw_fallen_77 (Q : Int → iST → Prop) (x1 : Int) (x2 : Int) (u : iST) : Prop :=
  pw_isCallOf x1 8 (fun v2 u => 
  br (v2 = 0) (
    Q (-1) u) (
    pw_term x1 1 (fun v3 u => 
    br (v3 = x2) (
      pw_term x1 2 (fun v4 u => 
      pw_isNatural v4 (fun v5 u => 
      br (v5 = 0) (
        Q (-1) u) (
        pw_value v4 (fun v6 u => 
        br (v6 ≤ 0) (
          Q (-1) u) (
          pw_natural 0 (fun v7 u => 
          pw_made2 9 v7 x2 (fun v8 u => 
          Q v8 u) u) u)) u)) u) u) (
      Q (-1) u)) u)) u
theorem cj_w_fallen_77 {Q1 Q2 Q3 : Int → iST → Prop}  {x1 : Int} {x2 : Int} {u : iST} (hQ : ∀ r0 r1, Q1 r0 r1 → Q2 r0 r1 → Q3 r0 r1) : w_fallen_77 Q1 x1 x2 u → pw_fallen_77 Q2 x1 x2 u → w_fallen_77 Q3 x1 x2 u := (cj_w_isCallOf (fun _ _ => (br_cj (hQ _ _) (cj_w_term (fun _ _ => (br_cj (cj_w_term (fun _ _ => (cj_w_isNatural (fun _ _ => (br_cj (hQ _ _) (cj_w_value (fun _ _ => (br_cj (hQ _ _) (cj_w_natural (fun _ _ => (cj_w_made2 (fun _ _ => (hQ _ _))))))))))))) (hQ _ _)))))))
theorem mn_w_fallen_77 {Q1 Q2 : Int → iST → Prop}  {x1 : Int} {x2 : Int} {u : iST} (hQ : ∀ r0 r1, Q1 r0 r1 → Q2 r0 r1) : pw_fallen_77 Q1 x1 x2 u → pw_fallen_77 Q2 x1 x2 u := (mn_w_isCallOf (fun _ _ => (br_mn (hQ _ _) (mn_w_term (fun _ _ => (br_mn (mn_w_term (fun _ _ => (mn_w_isNatural (fun _ _ => (br_mn (hQ _ _) (mn_w_value (fun _ _ => (br_mn (hQ _ _) (mn_w_natural (fun _ _ => (mn_w_made2 (fun _ _ => (hQ _ _))))))))))))) (hQ _ _)))))))
theorem wp_w_fallen_77 {Q1 Q2 : Int → iST → Prop}  {x1 : Int} {x2 : Int} {u : iST} (hQ : ∀ r0 r1, Q1 r0 r1 → Q2 r0 r1) : w_fallen_77 Q1 x1 x2 u → pw_fallen_77 Q2 x1 x2 u := (wp_w_isCallOf (fun _ _ => (br_wp (hQ _ _) (wp_w_term (fun _ _ => (br_wp (wp_w_term (fun _ _ => (wp_w_isNatural (fun _ _ => (br_wp (hQ _ _) (wp_w_value (fun _ _ => (br_wp (hQ _ _) (wp_w_natural (fun _ _ => (wp_w_made2 (fun _ _ => (hQ _ _))))))))))))) (hQ _ _)))))))
def pw_fallen_55 (Q : Int → iST → Prop) (x1 : Int) (x2 : Int) (x3 : Int) (x4 : Int) (u : iST) : Prop :=
  pw_term x3 1 (fun v13 u => 
  br (v13 ≠ x4) (
    pw_fallen_77 Q x1 x2 u) (
    pw_made 10 x4 (-1) (-1) (fun v14 u => 
    Q v14 u) u)) u
theorem cj_w_fallen_55 {Q1 Q2 Q3 : Int → iST → Prop}  {x1 : Int} {x2 : Int} {x3 : Int} {x4 : Int} {u : iST} (hQ : ∀ r0 r1, Q1 r0 r1 → Q2 r0 r1 → Q3 r0 r1) : w_fallen_55 Q1 x1 x2 x3 x4 u → pw_fallen_55 Q2 x1 x2 x3 x4 u → w_fallen_55 Q3 x1 x2 x3 x4 u := (cj_w_term (fun _ _ => (br_cj (cj_w_fallen_77  hQ) (cj_w_made (fun _ _ => (hQ _ _))))))
theorem mn_w_fallen_55 {Q1 Q2 : Int → iST → Prop}  {x1 : Int} {x2 : Int} {x3 : Int} {x4 : Int} {u : iST} (hQ : ∀ r0 r1, Q1 r0 r1 → Q2 r0 r1) : pw_fallen_55 Q1 x1 x2 x3 x4 u → pw_fallen_55 Q2 x1 x2 x3 x4 u := (mn_w_term (fun _ _ => (br_mn (mn_w_fallen_77  hQ) (mn_w_made (fun _ _ => (hQ _ _))))))
theorem wp_w_fallen_55 {Q1 Q2 : Int → iST → Prop}  {x1 : Int} {x2 : Int} {x3 : Int} {x4 : Int} {u : iST} (hQ : ∀ r0 r1, Q1 r0 r1 → Q2 r0 r1) : w_fallen_55 Q1 x1 x2 x3 x4 u → pw_fallen_55 Q2 x1 x2 x3 x4 u := (wp_w_term (fun _ _ => (br_wp (wp_w_fallen_77  hQ) (wp_w_made (fun _ _ => (hQ _ _))))))
def pw_fallen (a0 : Int) (a1 : Int) (Q : Int → iST → Prop) (u : iST) : Prop :=
  pw_isCallOf a0 16 (fun v1 u => 
  br (v1 = 0) (
    pw_fallen_77 Q a0 a1 u) (
    pw_isCallOf a1 16 (fun v9 u => 
    br (v9 = 0) (
      pw_fallen_77 Q a0 a1 u) (
      pw_term a0 1 (fun v10 u => 
      pw_term a1 1 (fun v11 u => 
      pw_isCallOf v10 11 (fun v12 u => 
      br (v12 ≠ 0) (
        pw_fallen_55 Q a0 a1 v10 v11 u) (
        pw_isCallOf v10 12 (fun v15 u => 
        br (v15 = 0) (
          pw_fallen_77 Q a0 a1 u) (
          pw_fallen_55 Q a0 a1 v10 v11 u)) u)) u) u) u)) u)) u
theorem cj_w_fallen {Q1 Q2 Q3 : Int → iST → Prop}  {a0 : Int} {a1 : Int} {u : iST} (hQ : ∀ r0 r1, Q1 r0 r1 → Q2 r0 r1 → Q3 r0 r1) : w_fallen a0 a1 Q1 u → pw_fallen a0 a1 Q2 u → w_fallen a0 a1 Q3 u := (cj_w_isCallOf (fun _ _ => (br_cj (cj_w_fallen_77  hQ) (cj_w_isCallOf (fun _ _ => (br_cj (cj_w_fallen_77  hQ) (cj_w_term (fun _ _ => (cj_w_term (fun _ _ => (cj_w_isCallOf (fun _ _ => (br_cj (cj_w_fallen_55  hQ) (cj_w_isCallOf (fun _ _ => (br_cj (cj_w_fallen_77  hQ) (cj_w_fallen_55  hQ)))))))))))))))))
theorem mn_w_fallen {Q1 Q2 : Int → iST → Prop}  {a0 : Int} {a1 : Int} {u : iST} (hQ : ∀ r0 r1, Q1 r0 r1 → Q2 r0 r1) : pw_fallen a0 a1 Q1 u → pw_fallen a0 a1 Q2 u := (mn_w_isCallOf (fun _ _ => (br_mn (mn_w_fallen_77  hQ) (mn_w_isCallOf (fun _ _ => (br_mn (mn_w_fallen_77  hQ) (mn_w_term (fun _ _ => (mn_w_term (fun _ _ => (mn_w_isCallOf (fun _ _ => (br_mn (mn_w_fallen_55  hQ) (mn_w_isCallOf (fun _ _ => (br_mn (mn_w_fallen_77  hQ) (mn_w_fallen_55  hQ)))))))))))))))))
theorem wp_w_fallen {Q1 Q2 : Int → iST → Prop}  {a0 : Int} {a1 : Int} {u : iST} (hQ : ∀ r0 r1, Q1 r0 r1 → Q2 r0 r1) : w_fallen a0 a1 Q1 u → pw_fallen a0 a1 Q2 u := (wp_w_isCallOf (fun _ _ => (br_wp (wp_w_fallen_77  hQ) (wp_w_isCallOf (fun _ _ => (br_wp (wp_w_fallen_77  hQ) (wp_w_term (fun _ _ => (wp_w_term (fun _ _ => (wp_w_isCallOf (fun _ _ => (br_wp (wp_w_fallen_55  hQ) (wp_w_isCallOf (fun _ _ => (br_wp (wp_w_fallen_77  hQ) (wp_w_fallen_55  hQ)))))))))))))))))
def pw_bound_7b (R7 : Int → Int → Int → Int → Int → iST → Prop) (Q : Int → iST → Prop) (x1 : Int) (x2 : Int) (x3 : Int) (x4 : Int) (x5 : Int) (u : iST) : Prop :=
  ovp (130 * x1) (
  bdp x1 60 (rd (u.2.1 107 x1) (fun v3 => 
  ovp ((130 * x1) + v3) (
  br (((130 * x1) + v3) ≤ x5) (
    ovp (130 * x1) (
    bdp x1 60 (rd (u.2.1 107 x1) (fun v6 => 
    ovp ((130 * x1) + v6) (
    bdp ((130 * x1) + v6) 7800 (sw (iA u 105 ((130 * x1) + v6) x2) (fun u => 
    ovp (130 * x1) (
    bdp x1 60 (rd (u.2.1 107 x1) (fun v9 => 
    ovp ((130 * x1) + v9) (
    bdp ((130 * x1) + v9) 7800 (sw (iA u 106 ((130 * x1) + v9) x3) (fun u => 
    bdp x1 60 (rd (u.2.1 107 x1) (fun v11 => 
    ovp (v11 + 1) (
    bdp x1 60 (sw (iA u 107 x1 (v11 + 1)) (fun u => 
    ztp 1 (Q 1 u))))))))))))))))))) (
    bdp x5 7800 (rd (u.2.1 105 x5) (fun v13 => 
    br (v13 ≠ x2) (
      br (x4 = 0) (
        ovp (x5 + 1) (
        R7 x1 x2 x3 x4 (x5 + 1) u)) (
        bdp x5 7800 (rd (u.2.1 106 x5) (fun v15 => 
        br (v15 ≠ x3) (
          ovp (x5 + 1) (
          R7 x1 x2 x3 x4 (x5 + 1) u)) (
          ztp 0 (Q 0 u)))))) (
      bdp x5 7800 (rd (u.2.1 106 x5) (fun v17 => 
      br (v17 ≠ x3) (
        ztp 0 (Q 0 u)) (
        ztp 1 (Q 1 u))))))))))))
theorem cj_w_bound_7b {Q1 Q2 Q3 : Int → iST → Prop} {R71 R72 R73 : Int → Int → Int → Int → Int → iST → Prop} {x1 : Int} {x2 : Int} {x3 : Int} {x4 : Int} {x5 : Int} {u : iST} (hR7 : ∀ r0 r1 r2 r3 r4 r5, R71 r0 r1 r2 r3 r4 r5 → R72 r0 r1 r2 r3 r4 r5 → R73 r0 r1 r2 r3 r4 r5) (hQ : ∀ r0 r1, Q1 r0 r1 → Q2 r0 r1 → Q3 r0 r1) : w_bound_7b R71 Q1 x1 x2 x3 x4 x5 u → pw_bound_7b R72 Q2 x1 x2 x3 x4 x5 u → w_bound_7b R73 Q3 x1 x2 x3 x4 x5 u := (ov_cj (bd_cj (rd_cj fun _ => (ov_cj (br_cj (ov_cj (bd_cj (rd_cj fun _ => (ov_cj (bd_cj (sw_cj fun _ => (ov_cj (bd_cj (rd_cj fun _ => (ov_cj (bd_cj (sw_cj fun _ => (bd_cj (rd_cj fun _ => (ov_cj (bd_cj (sw_cj fun _ => (zt_cj (hQ _ _))))))))))))))))))) (bd_cj (rd_cj fun _ => (br_cj (br_cj (ov_cj (hR7 _ _ _ _ _ _)) (bd_cj (rd_cj fun _ => (br_cj (ov_cj (hR7 _ _ _ _ _ _)) (zt_cj (hQ _ _)))))) (bd_cj (rd_cj fun _ => (br_cj (zt_cj (hQ _ _)) (zt_cj (hQ _ _)))))))))))))
theorem mn_w_bound_7b {Q1 Q2 : Int → iST → Prop} {R71 R72 : Int → Int → Int → Int → Int → iST → Prop} {x1 : Int} {x2 : Int} {x3 : Int} {x4 : Int} {x5 : Int} {u : iST} (hR7 : ∀ r0 r1 r2 r3 r4 r5, R71 r0 r1 r2 r3 r4 r5 → R72 r0 r1 r2 r3 r4 r5) (hQ : ∀ r0 r1, Q1 r0 r1 → Q2 r0 r1) : pw_bound_7b R71 Q1 x1 x2 x3 x4 x5 u → pw_bound_7b R72 Q2 x1 x2 x3 x4 x5 u := (ov_mn (bd_mn (rd_mn fun _ => (ov_mn (br_mn (ov_mn (bd_mn (rd_mn fun _ => (ov_mn (bd_mn (sw_mn fun _ => (ov_mn (bd_mn (rd_mn fun _ => (ov_mn (bd_mn (sw_mn fun _ => (bd_mn (rd_mn fun _ => (ov_mn (bd_mn (sw_mn fun _ => (zt_mn (hQ _ _))))))))))))))))))) (bd_mn (rd_mn fun _ => (br_mn (br_mn (ov_mn (hR7 _ _ _ _ _ _)) (bd_mn (rd_mn fun _ => (br_mn (ov_mn (hR7 _ _ _ _ _ _)) (zt_mn (hQ _ _)))))) (bd_mn (rd_mn fun _ => (br_mn (zt_mn (hQ _ _)) (zt_mn (hQ _ _)))))))))))))
theorem wp_w_bound_7b {Q1 Q2 : Int → iST → Prop} {R71 R72 : Int → Int → Int → Int → Int → iST → Prop} {x1 : Int} {x2 : Int} {x3 : Int} {x4 : Int} {x5 : Int} {u : iST} (hR7 : ∀ r0 r1 r2 r3 r4 r5, R71 r0 r1 r2 r3 r4 r5 → R72 r0 r1 r2 r3 r4 r5) (hQ : ∀ r0 r1, Q1 r0 r1 → Q2 r0 r1) : w_bound_7b R71 Q1 x1 x2 x3 x4 x5 u → pw_bound_7b R72 Q2 x1 x2 x3 x4 x5 u := (ov_wp (bd_wp (rd_wp fun _ => (ov_wp (br_wp (ov_wp (bd_wp (rd_wp fun _ => (ov_wp (bd_wp (sw_wp fun _ => (ov_wp (bd_wp (rd_wp fun _ => (ov_wp (bd_wp (sw_wp fun _ => (bd_wp (rd_wp fun _ => (ov_wp (bd_wp (sw_wp fun _ => (zt_wp (hQ _ _))))))))))))))))))) (bd_wp (rd_wp fun _ => (br_wp (br_wp (ov_wp (hR7 _ _ _ _ _ _)) (bd_wp (rd_wp fun _ => (br_wp (ov_wp (hR7 _ _ _ _ _ _)) (zt_wp (hQ _ _)))))) (bd_wp (rd_wp fun _ => (br_wp (zt_wp (hQ _ _)) (zt_wp (hQ _ _)))))))))))))
def pw_bound_7 (Q : Int → iST → Prop) (x1 : Int) (x2 : Int) (x3 : Int) (x4 : Int) (x5 : Int) (u : iST) : Prop := ∃ R7 : Int → Int → Int → Int → Int → iST → Prop, (∀ (x1 : Int) (x2 : Int) (x3 : Int) (x4 : Int) (x5 : Int) (u : iST), R7 x1 x2 x3 x4 x5 u → pw_bound_7b R7 Q x1 x2 x3 x4 x5 u) ∧ R7 x1 x2 x3 x4 x5 u
theorem cj_w_bound_7 {Q1 Q2 Q3 : Int → iST → Prop}  {x1 : Int} {x2 : Int} {x3 : Int} {x4 : Int} {x5 : Int} {u : iST} (hQ : ∀ r0 r1, Q1 r0 r1 → Q2 r0 r1 → Q3 r0 r1) : w_bound_7 Q1 x1 x2 x3 x4 x5 u → pw_bound_7 Q2 x1 x2 x3 x4 x5 u → w_bound_7 Q3 x1 x2 x3 x4 x5 u := by
  intro a b R3 c3
  obtain ⟨R2, c2, b2⟩ := b
  exact a (fun r0 r1 r2 r3 r4 r5 => R2 r0 r1 r2 r3 r4 r5 → R3 r0 r1 r2 r3 r4 r5) (fun r0 r1 r2 r3 r4 r5 a b => c3 r0 r1 r2 r3 r4 r5 (cj_w_bound_7b (fun r0 r1 r2 r3 r4 r5 a b => a b) hQ a (c2 r0 r1 r2 r3 r4 r5 b))) b2
theorem pw_bound_7_i  {Q : Int → iST → Prop} {x1 : Int} {x2 : Int} {x3 : Int} {x4 : Int} {x5 : Int} {u : iST} (I : Int → Int → Int → Int → Int → iST → Prop) (s : ∀ (x1 : Int) (x2 : Int) (x3 : Int) (x4 : Int) (x5 : Int) (u : iST), I x1 x2 x3 x4 x5 u → pw_bound_7b I Q x1 x2 x3 x4 x5 u) (h : I x1 x2 x3 x4 x5 u) : pw_bound_7 Q x1 x2 x3 x4 x5 u := ⟨I, s, h⟩
theorem mn_w_bound_7 {Q1 Q2 : Int → iST → Prop}  {x1 : Int} {x2 : Int} {x3 : Int} {x4 : Int} {x5 : Int} {u : iST} (hQ : ∀ r0 r1, Q1 r0 r1 → Q2 r0 r1) : pw_bound_7 Q1 x1 x2 x3 x4 x5 u → pw_bound_7 Q2 x1 x2 x3 x4 x5 u := fun ⟨R, s, h⟩ => ⟨R, fun r0 r1 r2 r3 r4 r5 a => mn_w_bound_7b (fun r0 r1 r2 r3 r4 r5 a => a) hQ (s r0 r1 r2 r3 r4 r5 a), h⟩
theorem un_w_bound_7  {Q : Int → iST → Prop} {x1 : Int} {x2 : Int} {x3 : Int} {x4 : Int} {x5 : Int} {u : iST} : pw_bound_7 Q x1 x2 x3 x4 x5 u → pw_bound_7b (fun x1 x2 x3 x4 x5 u => pw_bound_7 Q x1 x2 x3 x4 x5 u) Q x1 x2 x3 x4 x5 u := fun ⟨R, s, h⟩ => mn_w_bound_7b (fun r0 r1 r2 r3 r4 r5 a => ⟨R, s, a⟩) (fun _ _ h => h) (s _ _ _ _ _ _ h)
theorem fo_w_bound_7  {Q : Int → iST → Prop} {x1 : Int} {x2 : Int} {x3 : Int} {x4 : Int} {x5 : Int} {u : iST} : pw_bound_7b (fun x1 x2 x3 x4 x5 u => pw_bound_7 Q x1 x2 x3 x4 x5 u) Q x1 x2 x3 x4 x5 u → pw_bound_7 Q x1 x2 x3 x4 x5 u := fun h => ⟨fun x1 x2 x3 x4 x5 u => pw_bound_7b (fun x1 x2 x3 x4 x5 u => pw_bound_7 Q x1 x2 x3 x4 x5 u) Q x1 x2 x3 x4 x5 u, fun r0 r1 r2 r3 r4 r5 a => mn_w_bound_7b (fun r0 r1 r2 r3 r4 r5 a => un_w_bound_7 a) (fun _ _ h => h) a, h⟩
theorem wp_w_bound_7 {Q1 Q2 : Int → iST → Prop}  {x1 : Int} {x2 : Int} {x3 : Int} {x4 : Int} {x5 : Int} {u : iST} (hQ : ∀ r0 r1, Q1 r0 r1 → Q2 r0 r1) : w_bound_7 Q1 x1 x2 x3 x4 x5 u → pw_bound_7 Q2 x1 x2 x3 x4 x5 u := fun a => a (fun x1 x2 x3 x4 x5 u => pw_bound_7 Q2 x1 x2 x3 x4 x5 u) (fun x1 x2 x3 x4 x5 u b => fo_w_bound_7 (wp_w_bound_7b (fun r0 r1 r2 r3 r4 r5 a => a) hQ b))
def pw_bound (a0 : Int) (a1 : Int) (a2 : Int) (a3 : Int) (Q : Int → iST → Prop) (u : iST) : Prop :=
  ovp (130 * a0) (
  pw_bound_7 Q a0 a1 a2 a3 (130 * a0) u)
theorem cj_w_bound {Q1 Q2 Q3 : Int → iST → Prop}  {a0 : Int} {a1 : Int} {a2 : Int} {a3 : Int} {u : iST} (hQ : ∀ r0 r1, Q1 r0 r1 → Q2 r0 r1 → Q3 r0 r1) : w_bound a0 a1 a2 a3 Q1 u → pw_bound a0 a1 a2 a3 Q2 u → w_bound a0 a1 a2 a3 Q3 u := (ov_cj (cj_w_bound_7  hQ))
theorem mn_w_bound {Q1 Q2 : Int → iST → Prop}  {a0 : Int} {a1 : Int} {a2 : Int} {a3 : Int} {u : iST} (hQ : ∀ r0 r1, Q1 r0 r1 → Q2 r0 r1) : pw_bound a0 a1 a2 a3 Q1 u → pw_bound a0 a1 a2 a3 Q2 u := (ov_mn (mn_w_bound_7  hQ))
theorem wp_w_bound {Q1 Q2 : Int → iST → Prop}  {a0 : Int} {a1 : Int} {a2 : Int} {a3 : Int} {u : iST} (hQ : ∀ r0 r1, Q1 r0 r1 → Q2 r0 r1) : w_bound a0 a1 a2 a3 Q1 u → pw_bound a0 a1 a2 a3 Q2 u := (ov_wp (wp_w_bound_7  hQ))
def pw_matches_153b (R24 : Int → Int → Int → iST → Prop) (R153 : Int → Int → Int → Int → Int → iST → Prop) (Q : Int → iST → Prop) (x3 : Int) (x4 : Int) (x5 : Int) (x8 : Int) (x9 : Int) (u : iST) : Prop :=
  br (x8 = 0) (
    R24 x3 x4 x5 u) (
    bdp x8 452000 (rd (u.2.1 0 x8) (fun v11 => 
    bdp x5 800 (sw (iA u 112 x5 v11) (fun u => 
    bdp x9 452000 (rd (u.2.1 0 x9) (fun v12 => 
    bdp x5 800 (sw (iA u 113 x5 v12) (fun u => 
    ovp (x5 + 1) (
    bdp x8 452000 (rd (u.2.1 1 x8) (fun v14 => 
    bdp x9 452000 (rd (u.2.1 1 x9) (fun v15 => 
    R153 x3 x4 (x5 + 1) v14 v15 u))))))))))))))
theorem cj_w_matches_153b {Q1 Q2 Q3 : Int → iST → Prop} {R241 R242 R243 : Int → Int → Int → iST → Prop} {R1531 R1532 R1533 : Int → Int → Int → Int → Int → iST → Prop} {x3 : Int} {x4 : Int} {x5 : Int} {x8 : Int} {x9 : Int} {u : iST} (hR24 : ∀ r0 r1 r2 r3, R241 r0 r1 r2 r3 → R242 r0 r1 r2 r3 → R243 r0 r1 r2 r3) (hR153 : ∀ r0 r1 r2 r3 r4 r5, R1531 r0 r1 r2 r3 r4 r5 → R1532 r0 r1 r2 r3 r4 r5 → R1533 r0 r1 r2 r3 r4 r5) (hQ : ∀ r0 r1, Q1 r0 r1 → Q2 r0 r1 → Q3 r0 r1) : w_matches_153b R241 R1531 Q1 x3 x4 x5 x8 x9 u → pw_matches_153b R242 R1532 Q2 x3 x4 x5 x8 x9 u → w_matches_153b R243 R1533 Q3 x3 x4 x5 x8 x9 u := (br_cj (hR24 _ _ _ _) (bd_cj (rd_cj fun _ => (bd_cj (sw_cj fun _ => (bd_cj (rd_cj fun _ => (bd_cj (sw_cj fun _ => (ov_cj (bd_cj (rd_cj fun _ => (bd_cj (rd_cj fun _ => (hR153 _ _ _ _ _ _)))))))))))))))
theorem mn_w_matches_153b {Q1 Q2 : Int → iST → Prop} {R241 R242 : Int → Int → Int → iST → Prop} {R1531 R1532 : Int → Int → Int → Int → Int → iST → Prop} {x3 : Int} {x4 : Int} {x5 : Int} {x8 : Int} {x9 : Int} {u : iST} (hR24 : ∀ r0 r1 r2 r3, R241 r0 r1 r2 r3 → R242 r0 r1 r2 r3) (hR153 : ∀ r0 r1 r2 r3 r4 r5, R1531 r0 r1 r2 r3 r4 r5 → R1532 r0 r1 r2 r3 r4 r5) (hQ : ∀ r0 r1, Q1 r0 r1 → Q2 r0 r1) : pw_matches_153b R241 R1531 Q1 x3 x4 x5 x8 x9 u → pw_matches_153b R242 R1532 Q2 x3 x4 x5 x8 x9 u := (br_mn (hR24 _ _ _ _) (bd_mn (rd_mn fun _ => (bd_mn (sw_mn fun _ => (bd_mn (rd_mn fun _ => (bd_mn (sw_mn fun _ => (ov_mn (bd_mn (rd_mn fun _ => (bd_mn (rd_mn fun _ => (hR153 _ _ _ _ _ _)))))))))))))))
theorem wp_w_matches_153b {Q1 Q2 : Int → iST → Prop} {R241 R242 : Int → Int → Int → iST → Prop} {R1531 R1532 : Int → Int → Int → Int → Int → iST → Prop} {x3 : Int} {x4 : Int} {x5 : Int} {x8 : Int} {x9 : Int} {u : iST} (hR24 : ∀ r0 r1 r2 r3, R241 r0 r1 r2 r3 → R242 r0 r1 r2 r3) (hR153 : ∀ r0 r1 r2 r3 r4 r5, R1531 r0 r1 r2 r3 r4 r5 → R1532 r0 r1 r2 r3 r4 r5) (hQ : ∀ r0 r1, Q1 r0 r1 → Q2 r0 r1) : w_matches_153b R241 R1531 Q1 x3 x4 x5 x8 x9 u → pw_matches_153b R242 R1532 Q2 x3 x4 x5 x8 x9 u := (br_wp (hR24 _ _ _ _) (bd_wp (rd_wp fun _ => (bd_wp (sw_wp fun _ => (bd_wp (rd_wp fun _ => (bd_wp (sw_wp fun _ => (ov_wp (bd_wp (rd_wp fun _ => (bd_wp (rd_wp fun _ => (hR153 _ _ _ _ _ _)))))))))))))))
def pw_matches_153 (R24 : Int → Int → Int → iST → Prop) (Q : Int → iST → Prop) (x3 : Int) (x4 : Int) (x5 : Int) (x8 : Int) (x9 : Int) (u : iST) : Prop := ∃ R153 : Int → Int → Int → Int → Int → iST → Prop, (∀ (x3 : Int) (x4 : Int) (x5 : Int) (x8 : Int) (x9 : Int) (u : iST), R153 x3 x4 x5 x8 x9 u → pw_matches_153b R24 R153 Q x3 x4 x5 x8 x9 u) ∧ R153 x3 x4 x5 x8 x9 u
theorem cj_w_matches_153 {Q1 Q2 Q3 : Int → iST → Prop} {R241 R242 R243 : Int → Int → Int → iST → Prop} {x3 : Int} {x4 : Int} {x5 : Int} {x8 : Int} {x9 : Int} {u : iST} (hR24 : ∀ r0 r1 r2 r3, R241 r0 r1 r2 r3 → R242 r0 r1 r2 r3 → R243 r0 r1 r2 r3) (hQ : ∀ r0 r1, Q1 r0 r1 → Q2 r0 r1 → Q3 r0 r1) : w_matches_153 R241 Q1 x3 x4 x5 x8 x9 u → pw_matches_153 R242 Q2 x3 x4 x5 x8 x9 u → w_matches_153 R243 Q3 x3 x4 x5 x8 x9 u := by
  intro a b R3 c3
  obtain ⟨R2, c2, b2⟩ := b
  exact a (fun r0 r1 r2 r3 r4 r5 => R2 r0 r1 r2 r3 r4 r5 → R3 r0 r1 r2 r3 r4 r5) (fun r0 r1 r2 r3 r4 r5 a b => c3 r0 r1 r2 r3 r4 r5 (cj_w_matches_153b hR24 (fun r0 r1 r2 r3 r4 r5 a b => a b) hQ a (c2 r0 r1 r2 r3 r4 r5 b))) b2
theorem pw_matches_153_i {R24 : Int → Int → Int → iST → Prop} {Q : Int → iST → Prop} {x3 : Int} {x4 : Int} {x5 : Int} {x8 : Int} {x9 : Int} {u : iST} (I : Int → Int → Int → Int → Int → iST → Prop) (s : ∀ (x3 : Int) (x4 : Int) (x5 : Int) (x8 : Int) (x9 : Int) (u : iST), I x3 x4 x5 x8 x9 u → pw_matches_153b R24 I Q x3 x4 x5 x8 x9 u) (h : I x3 x4 x5 x8 x9 u) : pw_matches_153 R24 Q x3 x4 x5 x8 x9 u := ⟨I, s, h⟩
theorem mn_w_matches_153 {Q1 Q2 : Int → iST → Prop} {R241 R242 : Int → Int → Int → iST → Prop} {x3 : Int} {x4 : Int} {x5 : Int} {x8 : Int} {x9 : Int} {u : iST} (hR24 : ∀ r0 r1 r2 r3, R241 r0 r1 r2 r3 → R242 r0 r1 r2 r3) (hQ : ∀ r0 r1, Q1 r0 r1 → Q2 r0 r1) : pw_matches_153 R241 Q1 x3 x4 x5 x8 x9 u → pw_matches_153 R242 Q2 x3 x4 x5 x8 x9 u := fun ⟨R, s, h⟩ => ⟨R, fun r0 r1 r2 r3 r4 r5 a => mn_w_matches_153b hR24 (fun r0 r1 r2 r3 r4 r5 a => a) hQ (s r0 r1 r2 r3 r4 r5 a), h⟩
theorem un_w_matches_153 {R24 : Int → Int → Int → iST → Prop} {Q : Int → iST → Prop} {x3 : Int} {x4 : Int} {x5 : Int} {x8 : Int} {x9 : Int} {u : iST} : pw_matches_153 R24 Q x3 x4 x5 x8 x9 u → pw_matches_153b R24 (fun x3 x4 x5 x8 x9 u => pw_matches_153 R24 Q x3 x4 x5 x8 x9 u) Q x3 x4 x5 x8 x9 u := fun ⟨R, s, h⟩ => mn_w_matches_153b (fun _ _ _ _ h => h) (fun r0 r1 r2 r3 r4 r5 a => ⟨R, s, a⟩) (fun _ _ h => h) (s _ _ _ _ _ _ h)
theorem fo_w_matches_153 {R24 : Int → Int → Int → iST → Prop} {Q : Int → iST → Prop} {x3 : Int} {x4 : Int} {x5 : Int} {x8 : Int} {x9 : Int} {u : iST} : pw_matches_153b R24 (fun x3 x4 x5 x8 x9 u => pw_matches_153 R24 Q x3 x4 x5 x8 x9 u) Q x3 x4 x5 x8 x9 u → pw_matches_153 R24 Q x3 x4 x5 x8 x9 u := fun h => ⟨fun x3 x4 x5 x8 x9 u => pw_matches_153b R24 (fun x3 x4 x5 x8 x9 u => pw_matches_153 R24 Q x3 x4 x5 x8 x9 u) Q x3 x4 x5 x8 x9 u, fun r0 r1 r2 r3 r4 r5 a => mn_w_matches_153b (fun _ _ _ _ h => h) (fun r0 r1 r2 r3 r4 r5 a => un_w_matches_153 a) (fun _ _ h => h) a, h⟩
theorem wp_w_matches_153 {Q1 Q2 : Int → iST → Prop} {R241 R242 : Int → Int → Int → iST → Prop} {x3 : Int} {x4 : Int} {x5 : Int} {x8 : Int} {x9 : Int} {u : iST} (hR24 : ∀ r0 r1 r2 r3, R241 r0 r1 r2 r3 → R242 r0 r1 r2 r3) (hQ : ∀ r0 r1, Q1 r0 r1 → Q2 r0 r1) : w_matches_153 R241 Q1 x3 x4 x5 x8 x9 u → pw_matches_153 R242 Q2 x3 x4 x5 x8 x9 u := fun a => a (fun x3 x4 x5 x8 x9 u => pw_matches_153 R242 Q2 x3 x4 x5 x8 x9 u) (fun x3 x4 x5 x8 x9 u b => fo_w_matches_153 (wp_w_matches_153b hR24 (fun r0 r1 r2 r3 r4 r5 a => a) hQ b))
