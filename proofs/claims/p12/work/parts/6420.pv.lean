/-! partial readings of the class -/
def hcp (x : Int) (P : Prop) : Prop := inC x → P
theorem hc_cj {x : Int} {A B C : Prop} (h : A → B → C) (a : hc x A) (b : hcp x B) : hc x C := ⟨a.1, h a.2 (b a.1)⟩
theorem rh_cj {x : Int} {A B C : Int → Prop} (h : ∀ v, A v → B v → C v) (a : rh x A) (b : rh x B) : rh x C := fun v e i => h v (a v e i) (b v e i)
theorem rc_cj {x : Int} {A B C : Int → Prop} (h : ∀ v, A v → B v → C v) (a : rc x A) (b : rc x B) : rc x C := fun v e i => h v (a v e i) (b v e i)
theorem ri_cj {x : Int} {A B C : Int → Prop} (h : ∀ v, A v → B v → C v) (a : ri x A) (b : ri x B) : ri x C := fun v i => h v (a v i) (b v i)
theorem rk_cj {x : Int} {A B C : Int → Prop} (h : ∀ v, A v → B v → C v) (a : rk x A) (b : rk x B) : rk x C := fun v i => h v (a v i) (b v i)
theorem rw5_cj {u : iST} {r : Nat} {n x : Int} {A B C : iST → Prop} (h : ∀ v, A v → B v → C v) (a : rw5 u r n x A) (b : rw5 u r n x B) : rw5 u r n x C := fun f i j => h _ (a f i j) (b f i j)
theorem hc_mn {x : Int} {A B : Prop} (h : A → B) (a : hcp x A) : hcp x B := fun y => h (a y)
theorem hc_wp {x : Int} {A B : Prop} (h : A → B) (a : hc x A) : hcp x B := fun _ => h a.2
theorem rh_mn {x : Int} {A B : Int → Prop} (h : ∀ v, A v → B v) (a : rh x A) : rh x B := fun v e i => h v (a v e i)
theorem rc_mn {x : Int} {A B : Int → Prop} (h : ∀ v, A v → B v) (a : rc x A) : rc x B := fun v e i => h v (a v e i)
theorem ri_mn {x : Int} {A B : Int → Prop} (h : ∀ v, A v → B v) (a : ri x A) : ri x B := fun v i => h v (a v i)
theorem rk_mn {x : Int} {A B : Int → Prop} (h : ∀ v, A v → B v) (a : rk x A) : rk x B := fun v i => h v (a v i)
theorem rw5_mn {u : iST} {r : Nat} {n x : Int} {A B : iST → Prop} (h : ∀ v, A v → B v) (a : rw5 u r n x A) : rw5 u r n x B := fun f i j => h _ (a f i j)
theorem rh_wp {x : Int} {A B : Int → Prop} (h : ∀ v, A v → B v) (a : rh x A) : rh x B := fun v e i => h v (a v e i)
theorem rc_wp {x : Int} {A B : Int → Prop} (h : ∀ v, A v → B v) (a : rc x A) : rc x B := fun v e i => h v (a v e i)
theorem ri_wp {x : Int} {A B : Int → Prop} (h : ∀ v, A v → B v) (a : ri x A) : ri x B := fun v i => h v (a v i)
theorem rk_wp {x : Int} {A B : Int → Prop} (h : ∀ v, A v → B v) (a : rk x A) : rk x B := fun v i => h v (a v i)
theorem rw5_wp {u : iST} {r : Nat} {n x : Int} {A B : iST → Prop} (h : ∀ v, A v → B v) (a : rw5 u r n x A) : rw5 u r n x B := fun f i j => h _ (a f i j)
def pv_0_functionOf_2b (R2 : Int → Int → iST → Prop) (Q : Int → iST → Prop) (x1 : Int) (x2 : Int) (u : iST) : Prop :=
  rd (u.1 0) (fun v1 => 
  br (v1 ≤ x2) (
    Q (-1) u) (
    bdp x2 40 (rd (u.2.1 0 x2) (fun v2 => 
    br (v2 ≠ x1) (
      ovp (x2 + 1) (
      R2 x1 (x2 + 1) u)) (
      Q x2 u)))))
theorem cj_v_0_functionOf_2b {Q1 Q2 Q3 : Int → iST → Prop} {R21 R22 R23 : Int → Int → iST → Prop} {x1 : Int} {x2 : Int} {u : iST} (hR2 : ∀ r0 r1 r2, R21 r0 r1 r2 → R22 r0 r1 r2 → R23 r0 r1 r2) (hQ : ∀ r0 r1, Q1 r0 r1 → Q2 r0 r1 → Q3 r0 r1) : v_0_functionOf_2b R21 Q1 x1 x2 u → pv_0_functionOf_2b R22 Q2 x1 x2 u → v_0_functionOf_2b R23 Q3 x1 x2 u := (rd_cj fun _ => (br_cj (hQ _ _) (bd_cj (rd_cj fun _ => (br_cj (ov_cj (hR2 _ _ _)) (hQ _ _))))))
theorem mn_v_0_functionOf_2b {Q1 Q2 : Int → iST → Prop} {R21 R22 : Int → Int → iST → Prop} {x1 : Int} {x2 : Int} {u : iST} (hR2 : ∀ r0 r1 r2, R21 r0 r1 r2 → R22 r0 r1 r2) (hQ : ∀ r0 r1, Q1 r0 r1 → Q2 r0 r1) : pv_0_functionOf_2b R21 Q1 x1 x2 u → pv_0_functionOf_2b R22 Q2 x1 x2 u := (rd_mn fun _ => (br_mn (hQ _ _) (bd_mn (rd_mn fun _ => (br_mn (ov_mn (hR2 _ _ _)) (hQ _ _))))))
theorem wp_v_0_functionOf_2b {Q1 Q2 : Int → iST → Prop} {R21 R22 : Int → Int → iST → Prop} {x1 : Int} {x2 : Int} {u : iST} (hR2 : ∀ r0 r1 r2, R21 r0 r1 r2 → R22 r0 r1 r2) (hQ : ∀ r0 r1, Q1 r0 r1 → Q2 r0 r1) : v_0_functionOf_2b R21 Q1 x1 x2 u → pv_0_functionOf_2b R22 Q2 x1 x2 u := (rd_wp fun _ => (br_wp (hQ _ _) (bd_wp (rd_wp fun _ => (br_wp (ov_wp (hR2 _ _ _)) (hQ _ _))))))
def pv_0_functionOf_2 (Q : Int → iST → Prop) (x1 : Int) (x2 : Int) (u : iST) : Prop := ∃ R2 : Int → Int → iST → Prop, (∀ (x1 : Int) (x2 : Int) (u : iST), R2 x1 x2 u → pv_0_functionOf_2b R2 Q x1 x2 u) ∧ R2 x1 x2 u
theorem cj_v_0_functionOf_2 {Q1 Q2 Q3 : Int → iST → Prop}  {x1 : Int} {x2 : Int} {u : iST} (hQ : ∀ r0 r1, Q1 r0 r1 → Q2 r0 r1 → Q3 r0 r1) : v_0_functionOf_2 Q1 x1 x2 u → pv_0_functionOf_2 Q2 x1 x2 u → v_0_functionOf_2 Q3 x1 x2 u := by
  intro a b R3 c3
  obtain ⟨R2, c2, b2⟩ := b
  exact a (fun r0 r1 r2 => R2 r0 r1 r2 → R3 r0 r1 r2) (fun r0 r1 r2 a b => c3 r0 r1 r2 (cj_v_0_functionOf_2b (fun r0 r1 r2 a b => a b) hQ a (c2 r0 r1 r2 b))) b2
theorem pv_0_functionOf_2_i  {Q : Int → iST → Prop} {x1 : Int} {x2 : Int} {u : iST} (I : Int → Int → iST → Prop) (s : ∀ (x1 : Int) (x2 : Int) (u : iST), I x1 x2 u → pv_0_functionOf_2b I Q x1 x2 u) (h : I x1 x2 u) : pv_0_functionOf_2 Q x1 x2 u := ⟨I, s, h⟩
theorem mn_v_0_functionOf_2 {Q1 Q2 : Int → iST → Prop}  {x1 : Int} {x2 : Int} {u : iST} (hQ : ∀ r0 r1, Q1 r0 r1 → Q2 r0 r1) : pv_0_functionOf_2 Q1 x1 x2 u → pv_0_functionOf_2 Q2 x1 x2 u := fun ⟨R, s, h⟩ => ⟨R, fun r0 r1 r2 a => mn_v_0_functionOf_2b (fun r0 r1 r2 a => a) hQ (s r0 r1 r2 a), h⟩
theorem un_v_0_functionOf_2  {Q : Int → iST → Prop} {x1 : Int} {x2 : Int} {u : iST} : pv_0_functionOf_2 Q x1 x2 u → pv_0_functionOf_2b (fun x1 x2 u => pv_0_functionOf_2 Q x1 x2 u) Q x1 x2 u := fun ⟨R, s, h⟩ => mn_v_0_functionOf_2b (fun r0 r1 r2 a => ⟨R, s, a⟩) (fun _ _ h => h) (s _ _ _ h)
theorem fo_v_0_functionOf_2  {Q : Int → iST → Prop} {x1 : Int} {x2 : Int} {u : iST} : pv_0_functionOf_2b (fun x1 x2 u => pv_0_functionOf_2 Q x1 x2 u) Q x1 x2 u → pv_0_functionOf_2 Q x1 x2 u := fun h => ⟨fun x1 x2 u => pv_0_functionOf_2b (fun x1 x2 u => pv_0_functionOf_2 Q x1 x2 u) Q x1 x2 u, fun r0 r1 r2 a => mn_v_0_functionOf_2b (fun r0 r1 r2 a => un_v_0_functionOf_2 a) (fun _ _ h => h) a, h⟩
theorem wp_v_0_functionOf_2 {Q1 Q2 : Int → iST → Prop}  {x1 : Int} {x2 : Int} {u : iST} (hQ : ∀ r0 r1, Q1 r0 r1 → Q2 r0 r1) : v_0_functionOf_2 Q1 x1 x2 u → pv_0_functionOf_2 Q2 x1 x2 u := fun a => a (fun x1 x2 u => pv_0_functionOf_2 Q2 x1 x2 u) (fun x1 x2 u b => fo_v_0_functionOf_2 (wp_v_0_functionOf_2b (fun r0 r1 r2 a => a) hQ b))
def pv_0_functionOf (a0 : Int) (Q : Int → iST → Prop) (u : iST) : Prop :=
  pv_0_functionOf_2 Q a0 0 u
theorem cj_v_0_functionOf {Q1 Q2 Q3 : Int → iST → Prop}  {a0 : Int} {u : iST} (hQ : ∀ r0 r1, Q1 r0 r1 → Q2 r0 r1 → Q3 r0 r1) : v_0_functionOf a0 Q1 u → pv_0_functionOf a0 Q2 u → v_0_functionOf a0 Q3 u := (cj_v_0_functionOf_2  hQ)
theorem mn_v_0_functionOf {Q1 Q2 : Int → iST → Prop}  {a0 : Int} {u : iST} (hQ : ∀ r0 r1, Q1 r0 r1 → Q2 r0 r1) : pv_0_functionOf a0 Q1 u → pv_0_functionOf a0 Q2 u := (mn_v_0_functionOf_2  hQ)
theorem wp_v_0_functionOf {Q1 Q2 : Int → iST → Prop}  {a0 : Int} {u : iST} (hQ : ∀ r0 r1, Q1 r0 r1 → Q2 r0 r1) : v_0_functionOf a0 Q1 u → pv_0_functionOf a0 Q2 u := (wp_v_0_functionOf_2  hQ)
def pv_0_theoremOf_2b (R2 : Int → Int → iST → Prop) (Q : Int → iST → Prop) (x1 : Int) (x2 : Int) (u : iST) : Prop :=
  rd (u.1 1) (fun v1 => 
  br (v1 ≤ x2) (
    Q (-1) u) (
    bdp x2 60 (rd (u.2.1 5 x2) (fun v2 => 
    br (v2 ≠ x1) (
      ovp (x2 + 1) (
      R2 x1 (x2 + 1) u)) (
      Q x2 u)))))
theorem cj_v_0_theoremOf_2b {Q1 Q2 Q3 : Int → iST → Prop} {R21 R22 R23 : Int → Int → iST → Prop} {x1 : Int} {x2 : Int} {u : iST} (hR2 : ∀ r0 r1 r2, R21 r0 r1 r2 → R22 r0 r1 r2 → R23 r0 r1 r2) (hQ : ∀ r0 r1, Q1 r0 r1 → Q2 r0 r1 → Q3 r0 r1) : v_0_theoremOf_2b R21 Q1 x1 x2 u → pv_0_theoremOf_2b R22 Q2 x1 x2 u → v_0_theoremOf_2b R23 Q3 x1 x2 u := (rd_cj fun _ => (br_cj (hQ _ _) (bd_cj (rd_cj fun _ => (br_cj (ov_cj (hR2 _ _ _)) (hQ _ _))))))
theorem mn_v_0_theoremOf_2b {Q1 Q2 : Int → iST → Prop} {R21 R22 : Int → Int → iST → Prop} {x1 : Int} {x2 : Int} {u : iST} (hR2 : ∀ r0 r1 r2, R21 r0 r1 r2 → R22 r0 r1 r2) (hQ : ∀ r0 r1, Q1 r0 r1 → Q2 r0 r1) : pv_0_theoremOf_2b R21 Q1 x1 x2 u → pv_0_theoremOf_2b R22 Q2 x1 x2 u := (rd_mn fun _ => (br_mn (hQ _ _) (bd_mn (rd_mn fun _ => (br_mn (ov_mn (hR2 _ _ _)) (hQ _ _))))))
theorem wp_v_0_theoremOf_2b {Q1 Q2 : Int → iST → Prop} {R21 R22 : Int → Int → iST → Prop} {x1 : Int} {x2 : Int} {u : iST} (hR2 : ∀ r0 r1 r2, R21 r0 r1 r2 → R22 r0 r1 r2) (hQ : ∀ r0 r1, Q1 r0 r1 → Q2 r0 r1) : v_0_theoremOf_2b R21 Q1 x1 x2 u → pv_0_theoremOf_2b R22 Q2 x1 x2 u := (rd_wp fun _ => (br_wp (hQ _ _) (bd_wp (rd_wp fun _ => (br_wp (ov_wp (hR2 _ _ _)) (hQ _ _))))))
def pv_0_theoremOf_2 (Q : Int → iST → Prop) (x1 : Int) (x2 : Int) (u : iST) : Prop := ∃ R2 : Int → Int → iST → Prop, (∀ (x1 : Int) (x2 : Int) (u : iST), R2 x1 x2 u → pv_0_theoremOf_2b R2 Q x1 x2 u) ∧ R2 x1 x2 u
theorem cj_v_0_theoremOf_2 {Q1 Q2 Q3 : Int → iST → Prop}  {x1 : Int} {x2 : Int} {u : iST} (hQ : ∀ r0 r1, Q1 r0 r1 → Q2 r0 r1 → Q3 r0 r1) : v_0_theoremOf_2 Q1 x1 x2 u → pv_0_theoremOf_2 Q2 x1 x2 u → v_0_theoremOf_2 Q3 x1 x2 u := by
  intro a b R3 c3
  obtain ⟨R2, c2, b2⟩ := b
  exact a (fun r0 r1 r2 => R2 r0 r1 r2 → R3 r0 r1 r2) (fun r0 r1 r2 a b => c3 r0 r1 r2 (cj_v_0_theoremOf_2b (fun r0 r1 r2 a b => a b) hQ a (c2 r0 r1 r2 b))) b2
theorem pv_0_theoremOf_2_i  {Q : Int → iST → Prop} {x1 : Int} {x2 : Int} {u : iST} (I : Int → Int → iST → Prop) (s : ∀ (x1 : Int) (x2 : Int) (u : iST), I x1 x2 u → pv_0_theoremOf_2b I Q x1 x2 u) (h : I x1 x2 u) : pv_0_theoremOf_2 Q x1 x2 u := ⟨I, s, h⟩
theorem mn_v_0_theoremOf_2 {Q1 Q2 : Int → iST → Prop}  {x1 : Int} {x2 : Int} {u : iST} (hQ : ∀ r0 r1, Q1 r0 r1 → Q2 r0 r1) : pv_0_theoremOf_2 Q1 x1 x2 u → pv_0_theoremOf_2 Q2 x1 x2 u := fun ⟨R, s, h⟩ => ⟨R, fun r0 r1 r2 a => mn_v_0_theoremOf_2b (fun r0 r1 r2 a => a) hQ (s r0 r1 r2 a), h⟩
theorem un_v_0_theoremOf_2  {Q : Int → iST → Prop} {x1 : Int} {x2 : Int} {u : iST} : pv_0_theoremOf_2 Q x1 x2 u → pv_0_theoremOf_2b (fun x1 x2 u => pv_0_theoremOf_2 Q x1 x2 u) Q x1 x2 u := fun ⟨R, s, h⟩ => mn_v_0_theoremOf_2b (fun r0 r1 r2 a => ⟨R, s, a⟩) (fun _ _ h => h) (s _ _ _ h)
theorem fo_v_0_theoremOf_2  {Q : Int → iST → Prop} {x1 : Int} {x2 : Int} {u : iST} : pv_0_theoremOf_2b (fun x1 x2 u => pv_0_theoremOf_2 Q x1 x2 u) Q x1 x2 u → pv_0_theoremOf_2 Q x1 x2 u := fun h => ⟨fun x1 x2 u => pv_0_theoremOf_2b (fun x1 x2 u => pv_0_theoremOf_2 Q x1 x2 u) Q x1 x2 u, fun r0 r1 r2 a => mn_v_0_theoremOf_2b (fun r0 r1 r2 a => un_v_0_theoremOf_2 a) (fun _ _ h => h) a, h⟩
theorem wp_v_0_theoremOf_2 {Q1 Q2 : Int → iST → Prop}  {x1 : Int} {x2 : Int} {u : iST} (hQ : ∀ r0 r1, Q1 r0 r1 → Q2 r0 r1) : v_0_theoremOf_2 Q1 x1 x2 u → pv_0_theoremOf_2 Q2 x1 x2 u := fun a => a (fun x1 x2 u => pv_0_theoremOf_2 Q2 x1 x2 u) (fun x1 x2 u b => fo_v_0_theoremOf_2 (wp_v_0_theoremOf_2b (fun r0 r1 r2 a => a) hQ b))
def pv_0_theoremOf (a0 : Int) (Q : Int → iST → Prop) (u : iST) : Prop :=
  pv_0_theoremOf_2 Q a0 0 u
theorem cj_v_0_theoremOf {Q1 Q2 Q3 : Int → iST → Prop}  {a0 : Int} {u : iST} (hQ : ∀ r0 r1, Q1 r0 r1 → Q2 r0 r1 → Q3 r0 r1) : v_0_theoremOf a0 Q1 u → pv_0_theoremOf a0 Q2 u → v_0_theoremOf a0 Q3 u := (cj_v_0_theoremOf_2  hQ)
theorem mn_v_0_theoremOf {Q1 Q2 : Int → iST → Prop}  {a0 : Int} {u : iST} (hQ : ∀ r0 r1, Q1 r0 r1 → Q2 r0 r1) : pv_0_theoremOf a0 Q1 u → pv_0_theoremOf a0 Q2 u := (mn_v_0_theoremOf_2  hQ)
theorem wp_v_0_theoremOf {Q1 Q2 : Int → iST → Prop}  {a0 : Int} {u : iST} (hQ : ∀ r0 r1, Q1 r0 r1 → Q2 r0 r1) : v_0_theoremOf a0 Q1 u → pv_0_theoremOf a0 Q2 u := (wp_v_0_theoremOf_2  hQ)
def pv_0_arityOf_21b (R21 : Int → Int → iST → Prop) (Q : Int → iST → Prop) (x1 : Int) (x2 : Int) (u : iST) : Prop :=
  rd (u.1 0) (fun v1 => 
  br (v1 ≤ x2) (
    Q (-1) u) (
    bdp x2 40 (rd (u.2.1 0 x2) (fun v2 => 
    br (v2 ≠ x1) (
      ovp (x2 + 1) (
      R21 x1 (x2 + 1) u)) (
      bdp x2 40 (rd (u.2.1 2 x2) (fun v4 => 
      Q v4 u)))))))
theorem cj_v_0_arityOf_21b {Q1 Q2 Q3 : Int → iST → Prop} {R211 R212 R213 : Int → Int → iST → Prop} {x1 : Int} {x2 : Int} {u : iST} (hR21 : ∀ r0 r1 r2, R211 r0 r1 r2 → R212 r0 r1 r2 → R213 r0 r1 r2) (hQ : ∀ r0 r1, Q1 r0 r1 → Q2 r0 r1 → Q3 r0 r1) : v_0_arityOf_21b R211 Q1 x1 x2 u → pv_0_arityOf_21b R212 Q2 x1 x2 u → v_0_arityOf_21b R213 Q3 x1 x2 u := (rd_cj fun _ => (br_cj (hQ _ _) (bd_cj (rd_cj fun _ => (br_cj (ov_cj (hR21 _ _ _)) (bd_cj (rd_cj fun _ => (hQ _ _))))))))
theorem mn_v_0_arityOf_21b {Q1 Q2 : Int → iST → Prop} {R211 R212 : Int → Int → iST → Prop} {x1 : Int} {x2 : Int} {u : iST} (hR21 : ∀ r0 r1 r2, R211 r0 r1 r2 → R212 r0 r1 r2) (hQ : ∀ r0 r1, Q1 r0 r1 → Q2 r0 r1) : pv_0_arityOf_21b R211 Q1 x1 x2 u → pv_0_arityOf_21b R212 Q2 x1 x2 u := (rd_mn fun _ => (br_mn (hQ _ _) (bd_mn (rd_mn fun _ => (br_mn (ov_mn (hR21 _ _ _)) (bd_mn (rd_mn fun _ => (hQ _ _))))))))
theorem wp_v_0_arityOf_21b {Q1 Q2 : Int → iST → Prop} {R211 R212 : Int → Int → iST → Prop} {x1 : Int} {x2 : Int} {u : iST} (hR21 : ∀ r0 r1 r2, R211 r0 r1 r2 → R212 r0 r1 r2) (hQ : ∀ r0 r1, Q1 r0 r1 → Q2 r0 r1) : v_0_arityOf_21b R211 Q1 x1 x2 u → pv_0_arityOf_21b R212 Q2 x1 x2 u := (rd_wp fun _ => (br_wp (hQ _ _) (bd_wp (rd_wp fun _ => (br_wp (ov_wp (hR21 _ _ _)) (bd_wp (rd_wp fun _ => (hQ _ _))))))))
def pv_0_arityOf_21 (Q : Int → iST → Prop) (x1 : Int) (x2 : Int) (u : iST) : Prop := ∃ R21 : Int → Int → iST → Prop, (∀ (x1 : Int) (x2 : Int) (u : iST), R21 x1 x2 u → pv_0_arityOf_21b R21 Q x1 x2 u) ∧ R21 x1 x2 u
theorem cj_v_0_arityOf_21 {Q1 Q2 Q3 : Int → iST → Prop}  {x1 : Int} {x2 : Int} {u : iST} (hQ : ∀ r0 r1, Q1 r0 r1 → Q2 r0 r1 → Q3 r0 r1) : v_0_arityOf_21 Q1 x1 x2 u → pv_0_arityOf_21 Q2 x1 x2 u → v_0_arityOf_21 Q3 x1 x2 u := by
  intro a b R3 c3
  obtain ⟨R2, c2, b2⟩ := b
  exact a (fun r0 r1 r2 => R2 r0 r1 r2 → R3 r0 r1 r2) (fun r0 r1 r2 a b => c3 r0 r1 r2 (cj_v_0_arityOf_21b (fun r0 r1 r2 a b => a b) hQ a (c2 r0 r1 r2 b))) b2
theorem pv_0_arityOf_21_i  {Q : Int → iST → Prop} {x1 : Int} {x2 : Int} {u : iST} (I : Int → Int → iST → Prop) (s : ∀ (x1 : Int) (x2 : Int) (u : iST), I x1 x2 u → pv_0_arityOf_21b I Q x1 x2 u) (h : I x1 x2 u) : pv_0_arityOf_21 Q x1 x2 u := ⟨I, s, h⟩
theorem mn_v_0_arityOf_21 {Q1 Q2 : Int → iST → Prop}  {x1 : Int} {x2 : Int} {u : iST} (hQ : ∀ r0 r1, Q1 r0 r1 → Q2 r0 r1) : pv_0_arityOf_21 Q1 x1 x2 u → pv_0_arityOf_21 Q2 x1 x2 u := fun ⟨R, s, h⟩ => ⟨R, fun r0 r1 r2 a => mn_v_0_arityOf_21b (fun r0 r1 r2 a => a) hQ (s r0 r1 r2 a), h⟩
theorem un_v_0_arityOf_21  {Q : Int → iST → Prop} {x1 : Int} {x2 : Int} {u : iST} : pv_0_arityOf_21 Q x1 x2 u → pv_0_arityOf_21b (fun x1 x2 u => pv_0_arityOf_21 Q x1 x2 u) Q x1 x2 u := fun ⟨R, s, h⟩ => mn_v_0_arityOf_21b (fun r0 r1 r2 a => ⟨R, s, a⟩) (fun _ _ h => h) (s _ _ _ h)
theorem fo_v_0_arityOf_21  {Q : Int → iST → Prop} {x1 : Int} {x2 : Int} {u : iST} : pv_0_arityOf_21b (fun x1 x2 u => pv_0_arityOf_21 Q x1 x2 u) Q x1 x2 u → pv_0_arityOf_21 Q x1 x2 u := fun h => ⟨fun x1 x2 u => pv_0_arityOf_21b (fun x1 x2 u => pv_0_arityOf_21 Q x1 x2 u) Q x1 x2 u, fun r0 r1 r2 a => mn_v_0_arityOf_21b (fun r0 r1 r2 a => un_v_0_arityOf_21 a) (fun _ _ h => h) a, h⟩
theorem wp_v_0_arityOf_21 {Q1 Q2 : Int → iST → Prop}  {x1 : Int} {x2 : Int} {u : iST} (hQ : ∀ r0 r1, Q1 r0 r1 → Q2 r0 r1) : v_0_arityOf_21 Q1 x1 x2 u → pv_0_arityOf_21 Q2 x1 x2 u := fun a => a (fun x1 x2 u => pv_0_arityOf_21 Q2 x1 x2 u) (fun x1 x2 u b => fo_v_0_arityOf_21 (wp_v_0_arityOf_21b (fun r0 r1 r2 a => a) hQ b))
def pv_0_arityOf_19 (Q : Int → iST → Prop) (x1 : Int) (u : iST) : Prop :=
  pv_0_arityOf_21 Q x1 0 u
theorem cj_v_0_arityOf_19 {Q1 Q2 Q3 : Int → iST → Prop}  {x1 : Int} {u : iST} (hQ : ∀ r0 r1, Q1 r0 r1 → Q2 r0 r1 → Q3 r0 r1) : v_0_arityOf_19 Q1 x1 u → pv_0_arityOf_19 Q2 x1 u → v_0_arityOf_19 Q3 x1 u := (cj_v_0_arityOf_21  hQ)
theorem mn_v_0_arityOf_19 {Q1 Q2 : Int → iST → Prop}  {x1 : Int} {u : iST} (hQ : ∀ r0 r1, Q1 r0 r1 → Q2 r0 r1) : pv_0_arityOf_19 Q1 x1 u → pv_0_arityOf_19 Q2 x1 u := (mn_v_0_arityOf_21  hQ)
theorem wp_v_0_arityOf_19 {Q1 Q2 : Int → iST → Prop}  {x1 : Int} {u : iST} (hQ : ∀ r0 r1, Q1 r0 r1 → Q2 r0 r1) : v_0_arityOf_19 Q1 x1 u → pv_0_arityOf_19 Q2 x1 u := (wp_v_0_arityOf_21  hQ)
def pv_0_arityOf (a0 : Int) (Q : Int → iST → Prop) (u : iST) : Prop :=
  br (a0 < 3) (
    pv_0_arityOf_19 Q a0 u) (
    br (16 < a0) (
      pv_0_arityOf_19 Q a0 u) (
      ovp (a0 - 3) (
      bdp (a0 - 3) 14 (rd (yT_BASE_ARITIES.getD (a0 - 3).toNat 0) (fun v6 => 
      Q v6 u)))))
theorem cj_v_0_arityOf {Q1 Q2 Q3 : Int → iST → Prop}  {a0 : Int} {u : iST} (hQ : ∀ r0 r1, Q1 r0 r1 → Q2 r0 r1 → Q3 r0 r1) : v_0_arityOf a0 Q1 u → pv_0_arityOf a0 Q2 u → v_0_arityOf a0 Q3 u := (br_cj (cj_v_0_arityOf_19  hQ) (br_cj (cj_v_0_arityOf_19  hQ) (ov_cj (bd_cj (rd_cj fun _ => (hQ _ _))))))
theorem mn_v_0_arityOf {Q1 Q2 : Int → iST → Prop}  {a0 : Int} {u : iST} (hQ : ∀ r0 r1, Q1 r0 r1 → Q2 r0 r1) : pv_0_arityOf a0 Q1 u → pv_0_arityOf a0 Q2 u := (br_mn (mn_v_0_arityOf_19  hQ) (br_mn (mn_v_0_arityOf_19  hQ) (ov_mn (bd_mn (rd_mn fun _ => (hQ _ _))))))
theorem wp_v_0_arityOf {Q1 Q2 : Int → iST → Prop}  {a0 : Int} {u : iST} (hQ : ∀ r0 r1, Q1 r0 r1 → Q2 r0 r1) : v_0_arityOf a0 Q1 u → pv_0_arityOf a0 Q2 u := (br_wp (wp_v_0_arityOf_19  hQ) (br_wp (wp_v_0_arityOf_19  hQ) (ov_wp (bd_wp (rd_wp fun _ => (hQ _ _))))))
def pv_0_canLook (a0 : Int) (a1 : Int) (Q : Int → iST → Prop) (u : iST) : Prop :=
  bdp a0 60 (rd (u.2.1 7 a0) (fun v1 => 
  br (v1 = (-1)) (
    ztp 0 (Q 0 u)) (
    bdp a0 60 (rz (u.2.1 12 a0) (fun v2 => 
    br (v2 = 0) (
      ztp 0 (Q 0 u)) (
      bdp a0 60 (rz (u.2.1 13 a0) (fun v3 => 
      br (v3 ≠ 0) (
        ztp 0 (Q 0 u)) (
        br (a1 = 1) (
          ztp 1 (Q 1 u)) (
          bdp a0 60 (rz (u.2.1 10 a0) (fun v4 => 
          br (v4 ≠ 0) (
            ztp 0 (Q 0 u)) (
            ztp 1 (Q 1 u))))))))))))))
theorem cj_v_0_canLook {Q1 Q2 Q3 : Int → iST → Prop}  {a0 : Int} {a1 : Int} {u : iST} (hQ : ∀ r0 r1, Q1 r0 r1 → Q2 r0 r1 → Q3 r0 r1) : v_0_canLook a0 a1 Q1 u → pv_0_canLook a0 a1 Q2 u → v_0_canLook a0 a1 Q3 u := (bd_cj (rd_cj fun _ => (br_cj (zt_cj (hQ _ _)) (bd_cj (rz_cj fun _ => (br_cj (zt_cj (hQ _ _)) (bd_cj (rz_cj fun _ => (br_cj (zt_cj (hQ _ _)) (br_cj (zt_cj (hQ _ _)) (bd_cj (rz_cj fun _ => (br_cj (zt_cj (hQ _ _)) (zt_cj (hQ _ _)))))))))))))))
theorem mn_v_0_canLook {Q1 Q2 : Int → iST → Prop}  {a0 : Int} {a1 : Int} {u : iST} (hQ : ∀ r0 r1, Q1 r0 r1 → Q2 r0 r1) : pv_0_canLook a0 a1 Q1 u → pv_0_canLook a0 a1 Q2 u := (bd_mn (rd_mn fun _ => (br_mn (zt_mn (hQ _ _)) (bd_mn (rz_mn fun _ => (br_mn (zt_mn (hQ _ _)) (bd_mn (rz_mn fun _ => (br_mn (zt_mn (hQ _ _)) (br_mn (zt_mn (hQ _ _)) (bd_mn (rz_mn fun _ => (br_mn (zt_mn (hQ _ _)) (zt_mn (hQ _ _)))))))))))))))
theorem wp_v_0_canLook {Q1 Q2 : Int → iST → Prop}  {a0 : Int} {a1 : Int} {u : iST} (hQ : ∀ r0 r1, Q1 r0 r1 → Q2 r0 r1) : v_0_canLook a0 a1 Q1 u → pv_0_canLook a0 a1 Q2 u := (bd_wp (rd_wp fun _ => (br_wp (zt_wp (hQ _ _)) (bd_wp (rz_wp fun _ => (br_wp (zt_wp (hQ _ _)) (bd_wp (rz_wp fun _ => (br_wp (zt_wp (hQ _ _)) (br_wp (zt_wp (hQ _ _)) (bd_wp (rz_wp fun _ => (br_wp (zt_wp (hQ _ _)) (zt_wp (hQ _ _)))))))))))))))
def pv_0_rules_40 (R4 : Int → Int → Int → iST → Prop) (Q : Int → iST → Prop) (x1 : Int) (x3 : Int) (y0 : Int) (u : iST) : Prop :=
  ovp (y0 + 0) (
  ovp (x3 + 1) (
  R4 x1 (y0 + 0) (x3 + 1) u))
theorem cj_v_0_rules_40 {Q1 Q2 Q3 : Int → iST → Prop} {R41 R42 R43 : Int → Int → Int → iST → Prop} {x1 : Int} {x3 : Int} {y0 : Int} {u : iST} (hR4 : ∀ r0 r1 r2 r3, R41 r0 r1 r2 r3 → R42 r0 r1 r2 r3 → R43 r0 r1 r2 r3) (hQ : ∀ r0 r1, Q1 r0 r1 → Q2 r0 r1 → Q3 r0 r1) : v_0_rules_40 R41 Q1 x1 x3 y0 u → pv_0_rules_40 R42 Q2 x1 x3 y0 u → v_0_rules_40 R43 Q3 x1 x3 y0 u := (ov_cj (ov_cj (hR4 _ _ _ _)))
theorem mn_v_0_rules_40 {Q1 Q2 : Int → iST → Prop} {R41 R42 : Int → Int → Int → iST → Prop} {x1 : Int} {x3 : Int} {y0 : Int} {u : iST} (hR4 : ∀ r0 r1 r2 r3, R41 r0 r1 r2 r3 → R42 r0 r1 r2 r3) (hQ : ∀ r0 r1, Q1 r0 r1 → Q2 r0 r1) : pv_0_rules_40 R41 Q1 x1 x3 y0 u → pv_0_rules_40 R42 Q2 x1 x3 y0 u := (ov_mn (ov_mn (hR4 _ _ _ _)))
theorem wp_v_0_rules_40 {Q1 Q2 : Int → iST → Prop} {R41 R42 : Int → Int → Int → iST → Prop} {x1 : Int} {x3 : Int} {y0 : Int} {u : iST} (hR4 : ∀ r0 r1 r2 r3, R41 r0 r1 r2 r3 → R42 r0 r1 r2 r3) (hQ : ∀ r0 r1, Q1 r0 r1 → Q2 r0 r1) : v_0_rules_40 R41 Q1 x1 x3 y0 u → pv_0_rules_40 R42 Q2 x1 x3 y0 u := (ov_wp (ov_wp (hR4 _ _ _ _)))
def pv_0_rules_36 (R4 : Int → Int → Int → iST → Prop) (Q : Int → iST → Prop) (x1 : Int) (x3 : Int) (y0 : Int) (u : iST) : Prop :=
  ovp (y0 + 1) (
  ovp (x3 + 1) (
  R4 x1 (y0 + 1) (x3 + 1) u))
theorem cj_v_0_rules_36 {Q1 Q2 Q3 : Int → iST → Prop} {R41 R42 R43 : Int → Int → Int → iST → Prop} {x1 : Int} {x3 : Int} {y0 : Int} {u : iST} (hR4 : ∀ r0 r1 r2 r3, R41 r0 r1 r2 r3 → R42 r0 r1 r2 r3 → R43 r0 r1 r2 r3) (hQ : ∀ r0 r1, Q1 r0 r1 → Q2 r0 r1 → Q3 r0 r1) : v_0_rules_36 R41 Q1 x1 x3 y0 u → pv_0_rules_36 R42 Q2 x1 x3 y0 u → v_0_rules_36 R43 Q3 x1 x3 y0 u := (ov_cj (ov_cj (hR4 _ _ _ _)))
theorem mn_v_0_rules_36 {Q1 Q2 : Int → iST → Prop} {R41 R42 : Int → Int → Int → iST → Prop} {x1 : Int} {x3 : Int} {y0 : Int} {u : iST} (hR4 : ∀ r0 r1 r2 r3, R41 r0 r1 r2 r3 → R42 r0 r1 r2 r3) (hQ : ∀ r0 r1, Q1 r0 r1 → Q2 r0 r1) : pv_0_rules_36 R41 Q1 x1 x3 y0 u → pv_0_rules_36 R42 Q2 x1 x3 y0 u := (ov_mn (ov_mn (hR4 _ _ _ _)))
theorem wp_v_0_rules_36 {Q1 Q2 : Int → iST → Prop} {R41 R42 : Int → Int → Int → iST → Prop} {x1 : Int} {x3 : Int} {y0 : Int} {u : iST} (hR4 : ∀ r0 r1 r2 r3, R41 r0 r1 r2 r3 → R42 r0 r1 r2 r3) (hQ : ∀ r0 r1, Q1 r0 r1 → Q2 r0 r1) : v_0_rules_36 R41 Q1 x1 x3 y0 u → pv_0_rules_36 R42 Q2 x1 x3 y0 u := (ov_wp (ov_wp (hR4 _ _ _ _)))
def pv_0_rules_4b (R4 : Int → Int → Int → iST → Prop) (Q : Int → iST → Prop) (x1 : Int) (x2 : Int) (x3 : Int) (u : iST) : Prop :=
  rd (u.1 1) (fun v1 => 
  br (v1 ≤ x3) (
    Q x2 u) (
    bdp x3 60 (rd (u.2.1 7 x3) (fun v2 => 
    br (v2 = (-1)) (
      pv_0_rules_40 R4 Q x1 x3 x2 u) (
      bdp x3 60 (rz (u.2.1 12 x3) (fun v5 => 
      br (v5 ≠ 0) (
        pv_0_rules_36 R4 Q x1 x3 x2 u) (
        br (x1 ≠ 0) (
          pv_0_rules_40 R4 Q x1 x3 x2 u) (
          pv_0_rules_36 R4 Q x1 x3 x2 u)))))))))
theorem cj_v_0_rules_4b {Q1 Q2 Q3 : Int → iST → Prop} {R41 R42 R43 : Int → Int → Int → iST → Prop} {x1 : Int} {x2 : Int} {x3 : Int} {u : iST} (hR4 : ∀ r0 r1 r2 r3, R41 r0 r1 r2 r3 → R42 r0 r1 r2 r3 → R43 r0 r1 r2 r3) (hQ : ∀ r0 r1, Q1 r0 r1 → Q2 r0 r1 → Q3 r0 r1) : v_0_rules_4b R41 Q1 x1 x2 x3 u → pv_0_rules_4b R42 Q2 x1 x2 x3 u → v_0_rules_4b R43 Q3 x1 x2 x3 u := (rd_cj fun _ => (br_cj (hQ _ _) (bd_cj (rd_cj fun _ => (br_cj (cj_v_0_rules_40 hR4 hQ) (bd_cj (rz_cj fun _ => (br_cj (cj_v_0_rules_36 hR4 hQ) (br_cj (cj_v_0_rules_40 hR4 hQ) (cj_v_0_rules_36 hR4 hQ))))))))))
theorem mn_v_0_rules_4b {Q1 Q2 : Int → iST → Prop} {R41 R42 : Int → Int → Int → iST → Prop} {x1 : Int} {x2 : Int} {x3 : Int} {u : iST} (hR4 : ∀ r0 r1 r2 r3, R41 r0 r1 r2 r3 → R42 r0 r1 r2 r3) (hQ : ∀ r0 r1, Q1 r0 r1 → Q2 r0 r1) : pv_0_rules_4b R41 Q1 x1 x2 x3 u → pv_0_rules_4b R42 Q2 x1 x2 x3 u := (rd_mn fun _ => (br_mn (hQ _ _) (bd_mn (rd_mn fun _ => (br_mn (mn_v_0_rules_40 hR4 hQ) (bd_mn (rz_mn fun _ => (br_mn (mn_v_0_rules_36 hR4 hQ) (br_mn (mn_v_0_rules_40 hR4 hQ) (mn_v_0_rules_36 hR4 hQ))))))))))
theorem wp_v_0_rules_4b {Q1 Q2 : Int → iST → Prop} {R41 R42 : Int → Int → Int → iST → Prop} {x1 : Int} {x2 : Int} {x3 : Int} {u : iST} (hR4 : ∀ r0 r1 r2 r3, R41 r0 r1 r2 r3 → R42 r0 r1 r2 r3) (hQ : ∀ r0 r1, Q1 r0 r1 → Q2 r0 r1) : v_0_rules_4b R41 Q1 x1 x2 x3 u → pv_0_rules_4b R42 Q2 x1 x2 x3 u := (rd_wp fun _ => (br_wp (hQ _ _) (bd_wp (rd_wp fun _ => (br_wp (wp_v_0_rules_40 hR4 hQ) (bd_wp (rz_wp fun _ => (br_wp (wp_v_0_rules_36 hR4 hQ) (br_wp (wp_v_0_rules_40 hR4 hQ) (wp_v_0_rules_36 hR4 hQ))))))))))
def pv_0_rules_4 (Q : Int → iST → Prop) (x1 : Int) (x2 : Int) (x3 : Int) (u : iST) : Prop := ∃ R4 : Int → Int → Int → iST → Prop, (∀ (x1 : Int) (x2 : Int) (x3 : Int) (u : iST), R4 x1 x2 x3 u → pv_0_rules_4b R4 Q x1 x2 x3 u) ∧ R4 x1 x2 x3 u
theorem cj_v_0_rules_4 {Q1 Q2 Q3 : Int → iST → Prop}  {x1 : Int} {x2 : Int} {x3 : Int} {u : iST} (hQ : ∀ r0 r1, Q1 r0 r1 → Q2 r0 r1 → Q3 r0 r1) : v_0_rules_4 Q1 x1 x2 x3 u → pv_0_rules_4 Q2 x1 x2 x3 u → v_0_rules_4 Q3 x1 x2 x3 u := by
  intro a b R3 c3
  obtain ⟨R2, c2, b2⟩ := b
  exact a (fun r0 r1 r2 r3 => R2 r0 r1 r2 r3 → R3 r0 r1 r2 r3) (fun r0 r1 r2 r3 a b => c3 r0 r1 r2 r3 (cj_v_0_rules_4b (fun r0 r1 r2 r3 a b => a b) hQ a (c2 r0 r1 r2 r3 b))) b2
theorem pv_0_rules_4_i  {Q : Int → iST → Prop} {x1 : Int} {x2 : Int} {x3 : Int} {u : iST} (I : Int → Int → Int → iST → Prop) (s : ∀ (x1 : Int) (x2 : Int) (x3 : Int) (u : iST), I x1 x2 x3 u → pv_0_rules_4b I Q x1 x2 x3 u) (h : I x1 x2 x3 u) : pv_0_rules_4 Q x1 x2 x3 u := ⟨I, s, h⟩
theorem mn_v_0_rules_4 {Q1 Q2 : Int → iST → Prop}  {x1 : Int} {x2 : Int} {x3 : Int} {u : iST} (hQ : ∀ r0 r1, Q1 r0 r1 → Q2 r0 r1) : pv_0_rules_4 Q1 x1 x2 x3 u → pv_0_rules_4 Q2 x1 x2 x3 u := fun ⟨R, s, h⟩ => ⟨R, fun r0 r1 r2 r3 a => mn_v_0_rules_4b (fun r0 r1 r2 r3 a => a) hQ (s r0 r1 r2 r3 a), h⟩
theorem un_v_0_rules_4  {Q : Int → iST → Prop} {x1 : Int} {x2 : Int} {x3 : Int} {u : iST} : pv_0_rules_4 Q x1 x2 x3 u → pv_0_rules_4b (fun x1 x2 x3 u => pv_0_rules_4 Q x1 x2 x3 u) Q x1 x2 x3 u := fun ⟨R, s, h⟩ => mn_v_0_rules_4b (fun r0 r1 r2 r3 a => ⟨R, s, a⟩) (fun _ _ h => h) (s _ _ _ _ h)
theorem fo_v_0_rules_4  {Q : Int → iST → Prop} {x1 : Int} {x2 : Int} {x3 : Int} {u : iST} : pv_0_rules_4b (fun x1 x2 x3 u => pv_0_rules_4 Q x1 x2 x3 u) Q x1 x2 x3 u → pv_0_rules_4 Q x1 x2 x3 u := fun h => ⟨fun x1 x2 x3 u => pv_0_rules_4b (fun x1 x2 x3 u => pv_0_rules_4 Q x1 x2 x3 u) Q x1 x2 x3 u, fun r0 r1 r2 r3 a => mn_v_0_rules_4b (fun r0 r1 r2 r3 a => un_v_0_rules_4 a) (fun _ _ h => h) a, h⟩
theorem wp_v_0_rules_4 {Q1 Q2 : Int → iST → Prop}  {x1 : Int} {x2 : Int} {x3 : Int} {u : iST} (hQ : ∀ r0 r1, Q1 r0 r1 → Q2 r0 r1) : v_0_rules_4 Q1 x1 x2 x3 u → pv_0_rules_4 Q2 x1 x2 x3 u := fun a => a (fun x1 x2 x3 u => pv_0_rules_4 Q2 x1 x2 x3 u) (fun x1 x2 x3 u b => fo_v_0_rules_4 (wp_v_0_rules_4b (fun r0 r1 r2 r3 a => a) hQ b))
def pv_0_rules (a0 : Int) (Q : Int → iST → Prop) (u : iST) : Prop :=
  pv_0_rules_4 Q a0 0 0 u
theorem cj_v_0_rules {Q1 Q2 Q3 : Int → iST → Prop}  {a0 : Int} {u : iST} (hQ : ∀ r0 r1, Q1 r0 r1 → Q2 r0 r1 → Q3 r0 r1) : v_0_rules a0 Q1 u → pv_0_rules a0 Q2 u → v_0_rules a0 Q3 u := (cj_v_0_rules_4  hQ)
theorem mn_v_0_rules {Q1 Q2 : Int → iST → Prop}  {a0 : Int} {u : iST} (hQ : ∀ r0 r1, Q1 r0 r1 → Q2 r0 r1) : pv_0_rules a0 Q1 u → pv_0_rules a0 Q2 u := (mn_v_0_rules_4  hQ)
theorem wp_v_0_rules {Q1 Q2 : Int → iST → Prop}  {a0 : Int} {u : iST} (hQ : ∀ r0 r1, Q1 r0 r1 → Q2 r0 r1) : v_0_rules a0 Q1 u → pv_0_rules a0 Q2 u := (wp_v_0_rules_4  hQ)
def pv_0_muteNone_2b (R2 : Int → iST → Prop) (Q : iST → Prop) (x1 : Int) (u : iST) : Prop :=
  br (60 ≤ x1) (
    Q u) (
    ztp 0 (bdp x1 60 (sw (iA u 13 x1 0) (fun u => 
    ovp (x1 + 1) (
    R2 (x1 + 1) u)))))
theorem cj_v_0_muteNone_2b {Q1 Q2 Q3 : iST → Prop} {R21 R22 R23 : Int → iST → Prop} {x1 : Int} {u : iST} (hR2 : ∀ r0 r1, R21 r0 r1 → R22 r0 r1 → R23 r0 r1) (hQ : ∀ r0, Q1 r0 → Q2 r0 → Q3 r0) : v_0_muteNone_2b R21 Q1 x1 u → pv_0_muteNone_2b R22 Q2 x1 u → v_0_muteNone_2b R23 Q3 x1 u := (br_cj (hQ _) (zt_cj (bd_cj (sw_cj fun _ => (ov_cj (hR2 _ _))))))
theorem mn_v_0_muteNone_2b {Q1 Q2 : iST → Prop} {R21 R22 : Int → iST → Prop} {x1 : Int} {u : iST} (hR2 : ∀ r0 r1, R21 r0 r1 → R22 r0 r1) (hQ : ∀ r0, Q1 r0 → Q2 r0) : pv_0_muteNone_2b R21 Q1 x1 u → pv_0_muteNone_2b R22 Q2 x1 u := (br_mn (hQ _) (zt_mn (bd_mn (sw_mn fun _ => (ov_mn (hR2 _ _))))))
theorem wp_v_0_muteNone_2b {Q1 Q2 : iST → Prop} {R21 R22 : Int → iST → Prop} {x1 : Int} {u : iST} (hR2 : ∀ r0 r1, R21 r0 r1 → R22 r0 r1) (hQ : ∀ r0, Q1 r0 → Q2 r0) : v_0_muteNone_2b R21 Q1 x1 u → pv_0_muteNone_2b R22 Q2 x1 u := (br_wp (hQ _) (zt_wp (bd_wp (sw_wp fun _ => (ov_wp (hR2 _ _))))))
def pv_0_muteNone_2 (Q : iST → Prop) (x1 : Int) (u : iST) : Prop := ∃ R2 : Int → iST → Prop, (∀ (x1 : Int) (u : iST), R2 x1 u → pv_0_muteNone_2b R2 Q x1 u) ∧ R2 x1 u
theorem cj_v_0_muteNone_2 {Q1 Q2 Q3 : iST → Prop}  {x1 : Int} {u : iST} (hQ : ∀ r0, Q1 r0 → Q2 r0 → Q3 r0) : v_0_muteNone_2 Q1 x1 u → pv_0_muteNone_2 Q2 x1 u → v_0_muteNone_2 Q3 x1 u := by
  intro a b R3 c3
  obtain ⟨R2, c2, b2⟩ := b
  exact a (fun r0 r1 => R2 r0 r1 → R3 r0 r1) (fun r0 r1 a b => c3 r0 r1 (cj_v_0_muteNone_2b (fun r0 r1 a b => a b) hQ a (c2 r0 r1 b))) b2
theorem pv_0_muteNone_2_i  {Q : iST → Prop} {x1 : Int} {u : iST} (I : Int → iST → Prop) (s : ∀ (x1 : Int) (u : iST), I x1 u → pv_0_muteNone_2b I Q x1 u) (h : I x1 u) : pv_0_muteNone_2 Q x1 u := ⟨I, s, h⟩
theorem mn_v_0_muteNone_2 {Q1 Q2 : iST → Prop}  {x1 : Int} {u : iST} (hQ : ∀ r0, Q1 r0 → Q2 r0) : pv_0_muteNone_2 Q1 x1 u → pv_0_muteNone_2 Q2 x1 u := fun ⟨R, s, h⟩ => ⟨R, fun r0 r1 a => mn_v_0_muteNone_2b (fun r0 r1 a => a) hQ (s r0 r1 a), h⟩
theorem un_v_0_muteNone_2  {Q : iST → Prop} {x1 : Int} {u : iST} : pv_0_muteNone_2 Q x1 u → pv_0_muteNone_2b (fun x1 u => pv_0_muteNone_2 Q x1 u) Q x1 u := fun ⟨R, s, h⟩ => mn_v_0_muteNone_2b (fun r0 r1 a => ⟨R, s, a⟩) (fun _ h => h) (s _ _ h)
theorem fo_v_0_muteNone_2  {Q : iST → Prop} {x1 : Int} {u : iST} : pv_0_muteNone_2b (fun x1 u => pv_0_muteNone_2 Q x1 u) Q x1 u → pv_0_muteNone_2 Q x1 u := fun h => ⟨fun x1 u => pv_0_muteNone_2b (fun x1 u => pv_0_muteNone_2 Q x1 u) Q x1 u, fun r0 r1 a => mn_v_0_muteNone_2b (fun r0 r1 a => un_v_0_muteNone_2 a) (fun _ h => h) a, h⟩
theorem wp_v_0_muteNone_2 {Q1 Q2 : iST → Prop}  {x1 : Int} {u : iST} (hQ : ∀ r0, Q1 r0 → Q2 r0) : v_0_muteNone_2 Q1 x1 u → pv_0_muteNone_2 Q2 x1 u := fun a => a (fun x1 u => pv_0_muteNone_2 Q2 x1 u) (fun x1 u b => fo_v_0_muteNone_2 (wp_v_0_muteNone_2b (fun r0 r1 a => a) hQ b))
def pv_0_muteNone (Q : iST → Prop) (u : iST) : Prop :=
  pv_0_muteNone_2 Q 0 u
theorem cj_v_0_muteNone {Q1 Q2 Q3 : iST → Prop}  {u : iST} (hQ : ∀ r0, Q1 r0 → Q2 r0 → Q3 r0) : v_0_muteNone Q1 u → pv_0_muteNone Q2 u → v_0_muteNone Q3 u := (cj_v_0_muteNone_2  hQ)
theorem mn_v_0_muteNone {Q1 Q2 : iST → Prop}  {u : iST} (hQ : ∀ r0, Q1 r0 → Q2 r0) : pv_0_muteNone Q1 u → pv_0_muteNone Q2 u := (mn_v_0_muteNone_2  hQ)
theorem wp_v_0_muteNone {Q1 Q2 : iST → Prop}  {u : iST} (hQ : ∀ r0, Q1 r0 → Q2 r0) : v_0_muteNone Q1 u → pv_0_muteNone Q2 u := (wp_v_0_muteNone_2  hQ)
def pv_0_addFunction (a0 : Int) (a1 : Int) (a2 : Int) (a3 : Int) (a4 : Int) (Q : iST → Prop) (u : iST) : Prop :=
  rd (u.1 0) (fun v1 => 
  br (40 ≤ v1) (
    Q u) (
    rd (u.1 0) (fun v2 => 
    bdp v2 40 (sw (iA u 0 v2 a0) (fun u => 
    rd (u.1 0) (fun v3 => 
    bdp v3 40 (sw (iA u 1 v3 a1) (fun u => 
    rd (u.1 0) (fun v4 => 
    bdp v4 40 (sw (iA u 2 v4 a2) (fun u => 
    rd (u.1 0) (fun v5 => 
    bdp v5 40 (sw (iA u 3 v5 a3) (fun u => 
    rd (u.1 0) (fun v6 => 
    bdp v6 40 (sw (iA u 4 v6 a4) (fun u => 
    rd (u.1 0) (fun v7 => 
    ovp (v7 + 1) (
    sw (iI u 0 (v7 + 1)) (fun u => 
    Q u))))))))))))))))))))
theorem cj_v_0_addFunction {Q1 Q2 Q3 : iST → Prop}  {a0 : Int} {a1 : Int} {a2 : Int} {a3 : Int} {a4 : Int} {u : iST} (hQ : ∀ r0, Q1 r0 → Q2 r0 → Q3 r0) : v_0_addFunction a0 a1 a2 a3 a4 Q1 u → pv_0_addFunction a0 a1 a2 a3 a4 Q2 u → v_0_addFunction a0 a1 a2 a3 a4 Q3 u := (rd_cj fun _ => (br_cj (hQ _) (rd_cj fun _ => (bd_cj (sw_cj fun _ => (rd_cj fun _ => (bd_cj (sw_cj fun _ => (rd_cj fun _ => (bd_cj (sw_cj fun _ => (rd_cj fun _ => (bd_cj (sw_cj fun _ => (rd_cj fun _ => (bd_cj (sw_cj fun _ => (rd_cj fun _ => (ov_cj (sw_cj fun _ => (hQ _)))))))))))))))))))))
theorem mn_v_0_addFunction {Q1 Q2 : iST → Prop}  {a0 : Int} {a1 : Int} {a2 : Int} {a3 : Int} {a4 : Int} {u : iST} (hQ : ∀ r0, Q1 r0 → Q2 r0) : pv_0_addFunction a0 a1 a2 a3 a4 Q1 u → pv_0_addFunction a0 a1 a2 a3 a4 Q2 u := (rd_mn fun _ => (br_mn (hQ _) (rd_mn fun _ => (bd_mn (sw_mn fun _ => (rd_mn fun _ => (bd_mn (sw_mn fun _ => (rd_mn fun _ => (bd_mn (sw_mn fun _ => (rd_mn fun _ => (bd_mn (sw_mn fun _ => (rd_mn fun _ => (bd_mn (sw_mn fun _ => (rd_mn fun _ => (ov_mn (sw_mn fun _ => (hQ _)))))))))))))))))))))
theorem wp_v_0_addFunction {Q1 Q2 : iST → Prop}  {a0 : Int} {a1 : Int} {a2 : Int} {a3 : Int} {a4 : Int} {u : iST} (hQ : ∀ r0, Q1 r0 → Q2 r0) : v_0_addFunction a0 a1 a2 a3 a4 Q1 u → pv_0_addFunction a0 a1 a2 a3 a4 Q2 u := (rd_wp fun _ => (br_wp (hQ _) (rd_wp fun _ => (bd_wp (sw_wp fun _ => (rd_wp fun _ => (bd_wp (sw_wp fun _ => (rd_wp fun _ => (bd_wp (sw_wp fun _ => (rd_wp fun _ => (bd_wp (sw_wp fun _ => (rd_wp fun _ => (bd_wp (sw_wp fun _ => (rd_wp fun _ => (ov_wp (sw_wp fun _ => (hQ _)))))))))))))))))))))
def pv_0_addTheorem (a0 : Int) (a1 : Int) (Q : iST → Prop) (u : iST) : Prop :=
  rd (u.1 1) (fun v1 => 
  br (60 ≤ v1) (
    Q u) (
    rd (u.1 1) (fun v2 => 
    bdp v2 60 (sw (iA u 5 v2 a0) (fun u => 
    rd (u.1 1) (fun v3 => 
    bdp v3 60 (sw (iA u 6 v3 a1) (fun u => 
    rd (u.1 1) (fun v4 => 
    bdp v4 60 (sw (iA u 7 v4 (-1)) (fun u => 
    rd (u.1 1) (fun v5 => 
    ztp 0 (bdp v5 60 (sw (iA u 12 v5 0) (fun u => 
    rd (u.1 1) (fun v6 => 
    ovp (v6 + 1) (
    sw (iI u 1 (v6 + 1)) (fun u => 
    Q u))))))))))))))))))
theorem cj_v_0_addTheorem {Q1 Q2 Q3 : iST → Prop}  {a0 : Int} {a1 : Int} {u : iST} (hQ : ∀ r0, Q1 r0 → Q2 r0 → Q3 r0) : v_0_addTheorem a0 a1 Q1 u → pv_0_addTheorem a0 a1 Q2 u → v_0_addTheorem a0 a1 Q3 u := (rd_cj fun _ => (br_cj (hQ _) (rd_cj fun _ => (bd_cj (sw_cj fun _ => (rd_cj fun _ => (bd_cj (sw_cj fun _ => (rd_cj fun _ => (bd_cj (sw_cj fun _ => (rd_cj fun _ => (zt_cj (bd_cj (sw_cj fun _ => (rd_cj fun _ => (ov_cj (sw_cj fun _ => (hQ _)))))))))))))))))))
theorem mn_v_0_addTheorem {Q1 Q2 : iST → Prop}  {a0 : Int} {a1 : Int} {u : iST} (hQ : ∀ r0, Q1 r0 → Q2 r0) : pv_0_addTheorem a0 a1 Q1 u → pv_0_addTheorem a0 a1 Q2 u := (rd_mn fun _ => (br_mn (hQ _) (rd_mn fun _ => (bd_mn (sw_mn fun _ => (rd_mn fun _ => (bd_mn (sw_mn fun _ => (rd_mn fun _ => (bd_mn (sw_mn fun _ => (rd_mn fun _ => (zt_mn (bd_mn (sw_mn fun _ => (rd_mn fun _ => (ov_mn (sw_mn fun _ => (hQ _)))))))))))))))))))
theorem wp_v_0_addTheorem {Q1 Q2 : iST → Prop}  {a0 : Int} {a1 : Int} {u : iST} (hQ : ∀ r0, Q1 r0 → Q2 r0) : v_0_addTheorem a0 a1 Q1 u → pv_0_addTheorem a0 a1 Q2 u := (rd_wp fun _ => (br_wp (hQ _) (rd_wp fun _ => (bd_wp (sw_wp fun _ => (rd_wp fun _ => (bd_wp (sw_wp fun _ => (rd_wp fun _ => (bd_wp (sw_wp fun _ => (rd_wp fun _ => (zt_wp (bd_wp (sw_wp fun _ => (rd_wp fun _ => (ov_wp (sw_wp fun _ => (hQ _)))))))))))))))))))
def pv_0_enter (a0 : Int) (a1 : Int) (Q : iST → Prop) (u : iST) : Prop :=
  rd (u.1 2) (fun v1 => 
  br (100 ≤ v1) (
    Q u) (
    rd (u.1 2) (fun v2 => 
    bdp v2 100 (sw (iA u 14 v2 a0) (fun u => 
    rd (u.1 2) (fun v3 => 
    rd (u.1 3) (fun v4 => 
    bdp v3 100 (sw (iA u 15 v3 v4) (fun u => 
    rd (u.1 2) (fun v5 => 
    ovp (v5 + 1) (
    sw (iI u 2 (v5 + 1)) (fun u => 
    sw (iI u 3 a1) (fun u => 
    Q u)))))))))))))
theorem cj_v_0_enter {Q1 Q2 Q3 : iST → Prop}  {a0 : Int} {a1 : Int} {u : iST} (hQ : ∀ r0, Q1 r0 → Q2 r0 → Q3 r0) : v_0_enter a0 a1 Q1 u → pv_0_enter a0 a1 Q2 u → v_0_enter a0 a1 Q3 u := (rd_cj fun _ => (br_cj (hQ _) (rd_cj fun _ => (bd_cj (sw_cj fun _ => (rd_cj fun _ => (rd_cj fun _ => (bd_cj (sw_cj fun _ => (rd_cj fun _ => (ov_cj (sw_cj fun _ => (sw_cj fun _ => (hQ _))))))))))))))
theorem mn_v_0_enter {Q1 Q2 : iST → Prop}  {a0 : Int} {a1 : Int} {u : iST} (hQ : ∀ r0, Q1 r0 → Q2 r0) : pv_0_enter a0 a1 Q1 u → pv_0_enter a0 a1 Q2 u := (rd_mn fun _ => (br_mn (hQ _) (rd_mn fun _ => (bd_mn (sw_mn fun _ => (rd_mn fun _ => (rd_mn fun _ => (bd_mn (sw_mn fun _ => (rd_mn fun _ => (ov_mn (sw_mn fun _ => (sw_mn fun _ => (hQ _))))))))))))))
theorem wp_v_0_enter {Q1 Q2 : iST → Prop}  {a0 : Int} {a1 : Int} {u : iST} (hQ : ∀ r0, Q1 r0 → Q2 r0) : v_0_enter a0 a1 Q1 u → pv_0_enter a0 a1 Q2 u := (rd_wp fun _ => (br_wp (hQ _) (rd_wp fun _ => (bd_wp (sw_wp fun _ => (rd_wp fun _ => (rd_wp fun _ => (bd_wp (sw_wp fun _ => (rd_wp fun _ => (ov_wp (sw_wp fun _ => (sw_wp fun _ => (hQ _))))))))))))))
def pv_0_takeBack (Q : iST → Prop) (u : iST) : Prop :=
  rd (u.1 2) (fun v1 => 
  br (v1 ≤ 0) (
    Q u) (
    rd (u.1 2) (fun v2 => 
    ovp (v2 - 1) (
    sw (iI u 2 (v2 - 1)) (fun u => 
    rd (u.1 2) (fun v4 => 
    bdp v4 100 (rd (u.2.1 15 v4) (fun v5 => 
    sw (iI u 3 v5) (fun u => 
    rd (u.1 2) (fun v6 => 
    bdp v6 100 (rd (u.2.1 14 v6) (fun v7 => 
    br (v7 ≠ 1) (
      rd (u.1 1) (fun v8 => 
      ovp (v8 - 1) (
      sw (iI u 1 (v8 - 1)) (fun u => 
      Q u)))) (
      rd (u.1 0) (fun v10 => 
      ovp (v10 - 1) (
      sw (iI u 0 (v10 - 1)) (fun u => 
      Q u))))))))))))))))
theorem cj_v_0_takeBack {Q1 Q2 Q3 : iST → Prop}  {u : iST} (hQ : ∀ r0, Q1 r0 → Q2 r0 → Q3 r0) : v_0_takeBack Q1 u → pv_0_takeBack Q2 u → v_0_takeBack Q3 u := (rd_cj fun _ => (br_cj (hQ _) (rd_cj fun _ => (ov_cj (sw_cj fun _ => (rd_cj fun _ => (bd_cj (rd_cj fun _ => (sw_cj fun _ => (rd_cj fun _ => (bd_cj (rd_cj fun _ => (br_cj (rd_cj fun _ => (ov_cj (sw_cj fun _ => (hQ _)))) (rd_cj fun _ => (ov_cj (sw_cj fun _ => (hQ _)))))))))))))))))
theorem mn_v_0_takeBack {Q1 Q2 : iST → Prop}  {u : iST} (hQ : ∀ r0, Q1 r0 → Q2 r0) : pv_0_takeBack Q1 u → pv_0_takeBack Q2 u := (rd_mn fun _ => (br_mn (hQ _) (rd_mn fun _ => (ov_mn (sw_mn fun _ => (rd_mn fun _ => (bd_mn (rd_mn fun _ => (sw_mn fun _ => (rd_mn fun _ => (bd_mn (rd_mn fun _ => (br_mn (rd_mn fun _ => (ov_mn (sw_mn fun _ => (hQ _)))) (rd_mn fun _ => (ov_mn (sw_mn fun _ => (hQ _)))))))))))))))))
theorem wp_v_0_takeBack {Q1 Q2 : iST → Prop}  {u : iST} (hQ : ∀ r0, Q1 r0 → Q2 r0) : v_0_takeBack Q1 u → pv_0_takeBack Q2 u := (rd_wp fun _ => (br_wp (hQ _) (rd_wp fun _ => (ov_wp (sw_wp fun _ => (rd_wp fun _ => (bd_wp (rd_wp fun _ => (sw_wp fun _ => (rd_wp fun _ => (bd_wp (rd_wp fun _ => (br_wp (rd_wp fun _ => (ov_wp (sw_wp fun _ => (hQ _)))) (rd_wp fun _ => (ov_wp (sw_wp fun _ => (hQ _)))))))))))))))))
def pv_0_placeOf_48 (R4 : Int → Int → Int → iST → Prop) (Q : Int → iST → Prop) (x1 : Int) (x3 : Int) (y0 : Int) (y1 : Int) (y2 : Int) (u : iST) : Prop :=
  br (y1 ≠ y2) (
    ovp (y0 + 0) (
    ovp (x3 + 1) (
    R4 x1 (y0 + 0) (x3 + 1) u))) (
    ovp (y0 + 1) (
    ovp (x3 + 1) (
    R4 x1 (y0 + 1) (x3 + 1) u)))
theorem cj_v_0_placeOf_48 {Q1 Q2 Q3 : Int → iST → Prop} {R41 R42 R43 : Int → Int → Int → iST → Prop} {x1 : Int} {x3 : Int} {y0 : Int} {y1 : Int} {y2 : Int} {u : iST} (hR4 : ∀ r0 r1 r2 r3, R41 r0 r1 r2 r3 → R42 r0 r1 r2 r3 → R43 r0 r1 r2 r3) (hQ : ∀ r0 r1, Q1 r0 r1 → Q2 r0 r1 → Q3 r0 r1) : v_0_placeOf_48 R41 Q1 x1 x3 y0 y1 y2 u → pv_0_placeOf_48 R42 Q2 x1 x3 y0 y1 y2 u → v_0_placeOf_48 R43 Q3 x1 x3 y0 y1 y2 u := (br_cj (ov_cj (ov_cj (hR4 _ _ _ _))) (ov_cj (ov_cj (hR4 _ _ _ _))))
theorem mn_v_0_placeOf_48 {Q1 Q2 : Int → iST → Prop} {R41 R42 : Int → Int → Int → iST → Prop} {x1 : Int} {x3 : Int} {y0 : Int} {y1 : Int} {y2 : Int} {u : iST} (hR4 : ∀ r0 r1 r2 r3, R41 r0 r1 r2 r3 → R42 r0 r1 r2 r3) (hQ : ∀ r0 r1, Q1 r0 r1 → Q2 r0 r1) : pv_0_placeOf_48 R41 Q1 x1 x3 y0 y1 y2 u → pv_0_placeOf_48 R42 Q2 x1 x3 y0 y1 y2 u := (br_mn (ov_mn (ov_mn (hR4 _ _ _ _))) (ov_mn (ov_mn (hR4 _ _ _ _))))
theorem wp_v_0_placeOf_48 {Q1 Q2 : Int → iST → Prop} {R41 R42 : Int → Int → Int → iST → Prop} {x1 : Int} {x3 : Int} {y0 : Int} {y1 : Int} {y2 : Int} {u : iST} (hR4 : ∀ r0 r1 r2 r3, R41 r0 r1 r2 r3 → R42 r0 r1 r2 r3) (hQ : ∀ r0 r1, Q1 r0 r1 → Q2 r0 r1) : v_0_placeOf_48 R41 Q1 x1 x3 y0 y1 y2 u → pv_0_placeOf_48 R42 Q2 x1 x3 y0 y1 y2 u := (br_wp (ov_wp (ov_wp (hR4 _ _ _ _))) (ov_wp (ov_wp (hR4 _ _ _ _))))
def pv_0_placeOf_33 (R4 : Int → Int → Int → iST → Prop) (Q : Int → iST → Prop) (x1 : Int) (x3 : Int) (y0 : Int) (y1 : Int) (u : iST) : Prop :=
  bdp x1 100 (rd (u.2.1 14 x1) (fun v3 => 
  br (v3 ≠ 1) (
    pv_0_placeOf_48 R4 Q x1 x3 y0 y1 0 u) (
    pv_0_placeOf_48 R4 Q x1 x3 y0 y1 1 u)))
theorem cj_v_0_placeOf_33 {Q1 Q2 Q3 : Int → iST → Prop} {R41 R42 R43 : Int → Int → Int → iST → Prop} {x1 : Int} {x3 : Int} {y0 : Int} {y1 : Int} {u : iST} (hR4 : ∀ r0 r1 r2 r3, R41 r0 r1 r2 r3 → R42 r0 r1 r2 r3 → R43 r0 r1 r2 r3) (hQ : ∀ r0 r1, Q1 r0 r1 → Q2 r0 r1 → Q3 r0 r1) : v_0_placeOf_33 R41 Q1 x1 x3 y0 y1 u → pv_0_placeOf_33 R42 Q2 x1 x3 y0 y1 u → v_0_placeOf_33 R43 Q3 x1 x3 y0 y1 u := (bd_cj (rd_cj fun _ => (br_cj (cj_v_0_placeOf_48 hR4 hQ) (cj_v_0_placeOf_48 hR4 hQ))))
theorem mn_v_0_placeOf_33 {Q1 Q2 : Int → iST → Prop} {R41 R42 : Int → Int → Int → iST → Prop} {x1 : Int} {x3 : Int} {y0 : Int} {y1 : Int} {u : iST} (hR4 : ∀ r0 r1 r2 r3, R41 r0 r1 r2 r3 → R42 r0 r1 r2 r3) (hQ : ∀ r0 r1, Q1 r0 r1 → Q2 r0 r1) : pv_0_placeOf_33 R41 Q1 x1 x3 y0 y1 u → pv_0_placeOf_33 R42 Q2 x1 x3 y0 y1 u := (bd_mn (rd_mn fun _ => (br_mn (mn_v_0_placeOf_48 hR4 hQ) (mn_v_0_placeOf_48 hR4 hQ))))
theorem wp_v_0_placeOf_33 {Q1 Q2 : Int → iST → Prop} {R41 R42 : Int → Int → Int → iST → Prop} {x1 : Int} {x3 : Int} {y0 : Int} {y1 : Int} {u : iST} (hR4 : ∀ r0 r1 r2 r3, R41 r0 r1 r2 r3 → R42 r0 r1 r2 r3) (hQ : ∀ r0 r1, Q1 r0 r1 → Q2 r0 r1) : v_0_placeOf_33 R41 Q1 x1 x3 y0 y1 u → pv_0_placeOf_33 R42 Q2 x1 x3 y0 y1 u := (bd_wp (rd_wp fun _ => (br_wp (wp_v_0_placeOf_48 hR4 hQ) (wp_v_0_placeOf_48 hR4 hQ))))
def pv_0_placeOf_4b (R4 : Int → Int → Int → iST → Prop) (Q : Int → iST → Prop) (x1 : Int) (x2 : Int) (x3 : Int) (u : iST) : Prop :=
  br (x1 ≤ x3) (
    Q x2 u) (
    rd (u.1 2) (fun v1 => 
    br (v1 ≤ x3) (
      Q x2 u) (
      bdp x3 100 (rd (u.2.1 14 x3) (fun v2 => 
      br (v2 ≠ 1) (
        pv_0_placeOf_33 R4 Q x1 x3 x2 0 u) (
        pv_0_placeOf_33 R4 Q x1 x3 x2 1 u))))))
theorem cj_v_0_placeOf_4b {Q1 Q2 Q3 : Int → iST → Prop} {R41 R42 R43 : Int → Int → Int → iST → Prop} {x1 : Int} {x2 : Int} {x3 : Int} {u : iST} (hR4 : ∀ r0 r1 r2 r3, R41 r0 r1 r2 r3 → R42 r0 r1 r2 r3 → R43 r0 r1 r2 r3) (hQ : ∀ r0 r1, Q1 r0 r1 → Q2 r0 r1 → Q3 r0 r1) : v_0_placeOf_4b R41 Q1 x1 x2 x3 u → pv_0_placeOf_4b R42 Q2 x1 x2 x3 u → v_0_placeOf_4b R43 Q3 x1 x2 x3 u := (br_cj (hQ _ _) (rd_cj fun _ => (br_cj (hQ _ _) (bd_cj (rd_cj fun _ => (br_cj (cj_v_0_placeOf_33 hR4 hQ) (cj_v_0_placeOf_33 hR4 hQ)))))))
theorem mn_v_0_placeOf_4b {Q1 Q2 : Int → iST → Prop} {R41 R42 : Int → Int → Int → iST → Prop} {x1 : Int} {x2 : Int} {x3 : Int} {u : iST} (hR4 : ∀ r0 r1 r2 r3, R41 r0 r1 r2 r3 → R42 r0 r1 r2 r3) (hQ : ∀ r0 r1, Q1 r0 r1 → Q2 r0 r1) : pv_0_placeOf_4b R41 Q1 x1 x2 x3 u → pv_0_placeOf_4b R42 Q2 x1 x2 x3 u := (br_mn (hQ _ _) (rd_mn fun _ => (br_mn (hQ _ _) (bd_mn (rd_mn fun _ => (br_mn (mn_v_0_placeOf_33 hR4 hQ) (mn_v_0_placeOf_33 hR4 hQ)))))))
theorem wp_v_0_placeOf_4b {Q1 Q2 : Int → iST → Prop} {R41 R42 : Int → Int → Int → iST → Prop} {x1 : Int} {x2 : Int} {x3 : Int} {u : iST} (hR4 : ∀ r0 r1 r2 r3, R41 r0 r1 r2 r3 → R42 r0 r1 r2 r3) (hQ : ∀ r0 r1, Q1 r0 r1 → Q2 r0 r1) : v_0_placeOf_4b R41 Q1 x1 x2 x3 u → pv_0_placeOf_4b R42 Q2 x1 x2 x3 u := (br_wp (hQ _ _) (rd_wp fun _ => (br_wp (hQ _ _) (bd_wp (rd_wp fun _ => (br_wp (wp_v_0_placeOf_33 hR4 hQ) (wp_v_0_placeOf_33 hR4 hQ)))))))
def pv_0_placeOf_4 (Q : Int → iST → Prop) (x1 : Int) (x2 : Int) (x3 : Int) (u : iST) : Prop := ∃ R4 : Int → Int → Int → iST → Prop, (∀ (x1 : Int) (x2 : Int) (x3 : Int) (u : iST), R4 x1 x2 x3 u → pv_0_placeOf_4b R4 Q x1 x2 x3 u) ∧ R4 x1 x2 x3 u
theorem cj_v_0_placeOf_4 {Q1 Q2 Q3 : Int → iST → Prop}  {x1 : Int} {x2 : Int} {x3 : Int} {u : iST} (hQ : ∀ r0 r1, Q1 r0 r1 → Q2 r0 r1 → Q3 r0 r1) : v_0_placeOf_4 Q1 x1 x2 x3 u → pv_0_placeOf_4 Q2 x1 x2 x3 u → v_0_placeOf_4 Q3 x1 x2 x3 u := by
  intro a b R3 c3
  obtain ⟨R2, c2, b2⟩ := b
  exact a (fun r0 r1 r2 r3 => R2 r0 r1 r2 r3 → R3 r0 r1 r2 r3) (fun r0 r1 r2 r3 a b => c3 r0 r1 r2 r3 (cj_v_0_placeOf_4b (fun r0 r1 r2 r3 a b => a b) hQ a (c2 r0 r1 r2 r3 b))) b2
theorem pv_0_placeOf_4_i  {Q : Int → iST → Prop} {x1 : Int} {x2 : Int} {x3 : Int} {u : iST} (I : Int → Int → Int → iST → Prop) (s : ∀ (x1 : Int) (x2 : Int) (x3 : Int) (u : iST), I x1 x2 x3 u → pv_0_placeOf_4b I Q x1 x2 x3 u) (h : I x1 x2 x3 u) : pv_0_placeOf_4 Q x1 x2 x3 u := ⟨I, s, h⟩
theorem mn_v_0_placeOf_4 {Q1 Q2 : Int → iST → Prop}  {x1 : Int} {x2 : Int} {x3 : Int} {u : iST} (hQ : ∀ r0 r1, Q1 r0 r1 → Q2 r0 r1) : pv_0_placeOf_4 Q1 x1 x2 x3 u → pv_0_placeOf_4 Q2 x1 x2 x3 u := fun ⟨R, s, h⟩ => ⟨R, fun r0 r1 r2 r3 a => mn_v_0_placeOf_4b (fun r0 r1 r2 r3 a => a) hQ (s r0 r1 r2 r3 a), h⟩
theorem un_v_0_placeOf_4  {Q : Int → iST → Prop} {x1 : Int} {x2 : Int} {x3 : Int} {u : iST} : pv_0_placeOf_4 Q x1 x2 x3 u → pv_0_placeOf_4b (fun x1 x2 x3 u => pv_0_placeOf_4 Q x1 x2 x3 u) Q x1 x2 x3 u := fun ⟨R, s, h⟩ => mn_v_0_placeOf_4b (fun r0 r1 r2 r3 a => ⟨R, s, a⟩) (fun _ _ h => h) (s _ _ _ _ h)
theorem fo_v_0_placeOf_4  {Q : Int → iST → Prop} {x1 : Int} {x2 : Int} {x3 : Int} {u : iST} : pv_0_placeOf_4b (fun x1 x2 x3 u => pv_0_placeOf_4 Q x1 x2 x3 u) Q x1 x2 x3 u → pv_0_placeOf_4 Q x1 x2 x3 u := fun h => ⟨fun x1 x2 x3 u => pv_0_placeOf_4b (fun x1 x2 x3 u => pv_0_placeOf_4 Q x1 x2 x3 u) Q x1 x2 x3 u, fun r0 r1 r2 r3 a => mn_v_0_placeOf_4b (fun r0 r1 r2 r3 a => un_v_0_placeOf_4 a) (fun _ _ h => h) a, h⟩
theorem wp_v_0_placeOf_4 {Q1 Q2 : Int → iST → Prop}  {x1 : Int} {x2 : Int} {x3 : Int} {u : iST} (hQ : ∀ r0 r1, Q1 r0 r1 → Q2 r0 r1) : v_0_placeOf_4 Q1 x1 x2 x3 u → pv_0_placeOf_4 Q2 x1 x2 x3 u := fun a => a (fun x1 x2 x3 u => pv_0_placeOf_4 Q2 x1 x2 x3 u) (fun x1 x2 x3 u b => fo_v_0_placeOf_4 (wp_v_0_placeOf_4b (fun r0 r1 r2 r3 a => a) hQ b))
def pv_0_placeOf (a0 : Int) (Q : Int → iST → Prop) (u : iST) : Prop :=
  pv_0_placeOf_4 Q a0 0 0 u
theorem cj_v_0_placeOf {Q1 Q2 Q3 : Int → iST → Prop}  {a0 : Int} {u : iST} (hQ : ∀ r0 r1, Q1 r0 r1 → Q2 r0 r1 → Q3 r0 r1) : v_0_placeOf a0 Q1 u → pv_0_placeOf a0 Q2 u → v_0_placeOf a0 Q3 u := (cj_v_0_placeOf_4  hQ)
theorem mn_v_0_placeOf {Q1 Q2 : Int → iST → Prop}  {a0 : Int} {u : iST} (hQ : ∀ r0 r1, Q1 r0 r1 → Q2 r0 r1) : pv_0_placeOf a0 Q1 u → pv_0_placeOf a0 Q2 u := (mn_v_0_placeOf_4  hQ)
theorem wp_v_0_placeOf {Q1 Q2 : Int → iST → Prop}  {a0 : Int} {u : iST} (hQ : ∀ r0 r1, Q1 r0 r1 → Q2 r0 r1) : v_0_placeOf a0 Q1 u → pv_0_placeOf a0 Q2 u := (wp_v_0_placeOf_4  hQ)
def pv_1_clear (th : Int) (Q : iST → Prop) (u : iST) : Prop :=
  sw (iA u 46 th 0) (fun u => 
  sw (iA u 47 th 0) (fun u => 
  sw (iA u 48 th 0) (fun u => 
  Q u)))
theorem cj_v_1_clear {Q1 Q2 Q3 : iST → Prop}  {th : Int} {u : iST} (hQ : ∀ r0, Q1 r0 → Q2 r0 → Q3 r0) : v_1_clear th Q1 u → pv_1_clear th Q2 u → v_1_clear th Q3 u := (sw_cj fun _ => (sw_cj fun _ => (sw_cj fun _ => (hQ _))))
theorem mn_v_1_clear {Q1 Q2 : iST → Prop}  {th : Int} {u : iST} (hQ : ∀ r0, Q1 r0 → Q2 r0) : pv_1_clear th Q1 u → pv_1_clear th Q2 u := (sw_mn fun _ => (sw_mn fun _ => (sw_mn fun _ => (hQ _))))
theorem wp_v_1_clear {Q1 Q2 : iST → Prop}  {th : Int} {u : iST} (hQ : ∀ r0, Q1 r0 → Q2 r0) : v_1_clear th Q1 u → pv_1_clear th Q2 u := (sw_wp fun _ => (sw_wp fun _ => (sw_wp fun _ => (hQ _))))
def pv_1_copy (th : Int) (a0 : Int) (Q : iST → Prop) (u : iST) : Prop :=
  sw (iCp u 49 49 (30 * th) (30 * a0) 30) (fun u => 
  rd (u.2.1 46 a0) (fun v1 => 
  sw (iA u 46 th v1) (fun u => 
  rd (u.2.1 47 a0) (fun v2 => 
  sw (iA u 47 th v2) (fun u => 
  rd (u.2.1 48 a0) (fun v3 => 
  sw (iA u 48 th v3) (fun u => 
  Q u)))))))
theorem cj_v_1_copy {Q1 Q2 Q3 : iST → Prop}  {th : Int} {a0 : Int} {u : iST} (hQ : ∀ r0, Q1 r0 → Q2 r0 → Q3 r0) : v_1_copy th a0 Q1 u → pv_1_copy th a0 Q2 u → v_1_copy th a0 Q3 u := (sw_cj fun _ => (rd_cj fun _ => (sw_cj fun _ => (rd_cj fun _ => (sw_cj fun _ => (rd_cj fun _ => (sw_cj fun _ => (hQ _))))))))
theorem mn_v_1_copy {Q1 Q2 : iST → Prop}  {th : Int} {a0 : Int} {u : iST} (hQ : ∀ r0, Q1 r0 → Q2 r0) : pv_1_copy th a0 Q1 u → pv_1_copy th a0 Q2 u := (sw_mn fun _ => (rd_mn fun _ => (sw_mn fun _ => (rd_mn fun _ => (sw_mn fun _ => (rd_mn fun _ => (sw_mn fun _ => (hQ _))))))))
theorem wp_v_1_copy {Q1 Q2 : iST → Prop}  {th : Int} {a0 : Int} {u : iST} (hQ : ∀ r0, Q1 r0 → Q2 r0) : v_1_copy th a0 Q1 u → pv_1_copy th a0 Q2 u := (sw_wp fun _ => (rd_wp fun _ => (sw_wp fun _ => (rd_wp fun _ => (sw_wp fun _ => (rd_wp fun _ => (sw_wp fun _ => (hQ _))))))))
def pv_1_placeOf_2b (R2 : Int → Int → Int → iST → Prop) (Q : Int → iST → Prop) (x0 : Int) (x1 : Int) (x2 : Int) (u : iST) : Prop :=
  rd (u.2.1 46 x0) (fun v1 => 
  br (v1 ≤ x2) (
    Q (-1) u) (
    bdp x2 30 (rd (u.2.1 49 (30 * x0 + x2)) (fun v2 => 
    br (v2 ≠ x1) (
      ovp (x2 + 1) (
      R2 x0 x1 (x2 + 1) u)) (
      Q x2 u)))))
theorem cj_v_1_placeOf_2b {Q1 Q2 Q3 : Int → iST → Prop} {R21 R22 R23 : Int → Int → Int → iST → Prop} {x0 : Int} {x1 : Int} {x2 : Int} {u : iST} (hR2 : ∀ r0 r1 r2 r3, R21 r0 r1 r2 r3 → R22 r0 r1 r2 r3 → R23 r0 r1 r2 r3) (hQ : ∀ r0 r1, Q1 r0 r1 → Q2 r0 r1 → Q3 r0 r1) : v_1_placeOf_2b R21 Q1 x0 x1 x2 u → pv_1_placeOf_2b R22 Q2 x0 x1 x2 u → v_1_placeOf_2b R23 Q3 x0 x1 x2 u := (rd_cj fun _ => (br_cj (hQ _ _) (bd_cj (rd_cj fun _ => (br_cj (ov_cj (hR2 _ _ _ _)) (hQ _ _))))))
theorem mn_v_1_placeOf_2b {Q1 Q2 : Int → iST → Prop} {R21 R22 : Int → Int → Int → iST → Prop} {x0 : Int} {x1 : Int} {x2 : Int} {u : iST} (hR2 : ∀ r0 r1 r2 r3, R21 r0 r1 r2 r3 → R22 r0 r1 r2 r3) (hQ : ∀ r0 r1, Q1 r0 r1 → Q2 r0 r1) : pv_1_placeOf_2b R21 Q1 x0 x1 x2 u → pv_1_placeOf_2b R22 Q2 x0 x1 x2 u := (rd_mn fun _ => (br_mn (hQ _ _) (bd_mn (rd_mn fun _ => (br_mn (ov_mn (hR2 _ _ _ _)) (hQ _ _))))))
theorem wp_v_1_placeOf_2b {Q1 Q2 : Int → iST → Prop} {R21 R22 : Int → Int → Int → iST → Prop} {x0 : Int} {x1 : Int} {x2 : Int} {u : iST} (hR2 : ∀ r0 r1 r2 r3, R21 r0 r1 r2 r3 → R22 r0 r1 r2 r3) (hQ : ∀ r0 r1, Q1 r0 r1 → Q2 r0 r1) : v_1_placeOf_2b R21 Q1 x0 x1 x2 u → pv_1_placeOf_2b R22 Q2 x0 x1 x2 u := (rd_wp fun _ => (br_wp (hQ _ _) (bd_wp (rd_wp fun _ => (br_wp (ov_wp (hR2 _ _ _ _)) (hQ _ _))))))
def pv_1_placeOf_2 (Q : Int → iST → Prop) (x0 : Int) (x1 : Int) (x2 : Int) (u : iST) : Prop := ∃ R2 : Int → Int → Int → iST → Prop, (∀ (x0 : Int) (x1 : Int) (x2 : Int) (u : iST), R2 x0 x1 x2 u → pv_1_placeOf_2b R2 Q x0 x1 x2 u) ∧ R2 x0 x1 x2 u
theorem cj_v_1_placeOf_2 {Q1 Q2 Q3 : Int → iST → Prop}  {x0 : Int} {x1 : Int} {x2 : Int} {u : iST} (hQ : ∀ r0 r1, Q1 r0 r1 → Q2 r0 r1 → Q3 r0 r1) : v_1_placeOf_2 Q1 x0 x1 x2 u → pv_1_placeOf_2 Q2 x0 x1 x2 u → v_1_placeOf_2 Q3 x0 x1 x2 u := by
  intro a b R3 c3
  obtain ⟨R2, c2, b2⟩ := b
  exact a (fun r0 r1 r2 r3 => R2 r0 r1 r2 r3 → R3 r0 r1 r2 r3) (fun r0 r1 r2 r3 a b => c3 r0 r1 r2 r3 (cj_v_1_placeOf_2b (fun r0 r1 r2 r3 a b => a b) hQ a (c2 r0 r1 r2 r3 b))) b2
theorem pv_1_placeOf_2_i  {Q : Int → iST → Prop} {x0 : Int} {x1 : Int} {x2 : Int} {u : iST} (I : Int → Int → Int → iST → Prop) (s : ∀ (x0 : Int) (x1 : Int) (x2 : Int) (u : iST), I x0 x1 x2 u → pv_1_placeOf_2b I Q x0 x1 x2 u) (h : I x0 x1 x2 u) : pv_1_placeOf_2 Q x0 x1 x2 u := ⟨I, s, h⟩
theorem mn_v_1_placeOf_2 {Q1 Q2 : Int → iST → Prop}  {x0 : Int} {x1 : Int} {x2 : Int} {u : iST} (hQ : ∀ r0 r1, Q1 r0 r1 → Q2 r0 r1) : pv_1_placeOf_2 Q1 x0 x1 x2 u → pv_1_placeOf_2 Q2 x0 x1 x2 u := fun ⟨R, s, h⟩ => ⟨R, fun r0 r1 r2 r3 a => mn_v_1_placeOf_2b (fun r0 r1 r2 r3 a => a) hQ (s r0 r1 r2 r3 a), h⟩
theorem un_v_1_placeOf_2  {Q : Int → iST → Prop} {x0 : Int} {x1 : Int} {x2 : Int} {u : iST} : pv_1_placeOf_2 Q x0 x1 x2 u → pv_1_placeOf_2b (fun x0 x1 x2 u => pv_1_placeOf_2 Q x0 x1 x2 u) Q x0 x1 x2 u := fun ⟨R, s, h⟩ => mn_v_1_placeOf_2b (fun r0 r1 r2 r3 a => ⟨R, s, a⟩) (fun _ _ h => h) (s _ _ _ _ h)
theorem fo_v_1_placeOf_2  {Q : Int → iST → Prop} {x0 : Int} {x1 : Int} {x2 : Int} {u : iST} : pv_1_placeOf_2b (fun x0 x1 x2 u => pv_1_placeOf_2 Q x0 x1 x2 u) Q x0 x1 x2 u → pv_1_placeOf_2 Q x0 x1 x2 u := fun h => ⟨fun x0 x1 x2 u => pv_1_placeOf_2b (fun x0 x1 x2 u => pv_1_placeOf_2 Q x0 x1 x2 u) Q x0 x1 x2 u, fun r0 r1 r2 r3 a => mn_v_1_placeOf_2b (fun r0 r1 r2 r3 a => un_v_1_placeOf_2 a) (fun _ _ h => h) a, h⟩
theorem wp_v_1_placeOf_2 {Q1 Q2 : Int → iST → Prop}  {x0 : Int} {x1 : Int} {x2 : Int} {u : iST} (hQ : ∀ r0 r1, Q1 r0 r1 → Q2 r0 r1) : v_1_placeOf_2 Q1 x0 x1 x2 u → pv_1_placeOf_2 Q2 x0 x1 x2 u := fun a => a (fun x0 x1 x2 u => pv_1_placeOf_2 Q2 x0 x1 x2 u) (fun x0 x1 x2 u b => fo_v_1_placeOf_2 (wp_v_1_placeOf_2b (fun r0 r1 r2 r3 a => a) hQ b))
def pv_1_placeOf (th : Int) (a0 : Int) (Q : Int → iST → Prop) (u : iST) : Prop :=
  pv_1_placeOf_2 Q th a0 0 u
theorem cj_v_1_placeOf {Q1 Q2 Q3 : Int → iST → Prop}  {th : Int} {a0 : Int} {u : iST} (hQ : ∀ r0 r1, Q1 r0 r1 → Q2 r0 r1 → Q3 r0 r1) : v_1_placeOf th a0 Q1 u → pv_1_placeOf th a0 Q2 u → v_1_placeOf th a0 Q3 u := (cj_v_1_placeOf_2  hQ)
theorem mn_v_1_placeOf {Q1 Q2 : Int → iST → Prop}  {th : Int} {a0 : Int} {u : iST} (hQ : ∀ r0 r1, Q1 r0 r1 → Q2 r0 r1) : pv_1_placeOf th a0 Q1 u → pv_1_placeOf th a0 Q2 u := (mn_v_1_placeOf_2  hQ)
theorem wp_v_1_placeOf {Q1 Q2 : Int → iST → Prop}  {th : Int} {a0 : Int} {u : iST} (hQ : ∀ r0 r1, Q1 r0 r1 → Q2 r0 r1) : v_1_placeOf th a0 Q1 u → pv_1_placeOf th a0 Q2 u := (wp_v_1_placeOf_2  hQ)
def pv_1_insert_60b (R60 : Int → Int → Int → Int → Int → iST → Prop) (Q : Int → iST → Prop) (x0 : Int) (x1 : Int) (x2 : Int) (x3 : Int) (x4 : Int) (u : iST) : Prop :=
  br (x4 ≤ x1) (
    bdp x1 30 (sw (iA u 49 (30 * x0 + x1) x2) (fun u => 
    rd (u.2.1 46 x0) (fun v5 => 
    ovp (v5 + 1) (
    sw (iA u 46 x0 (v5 + 1)) (fun u => 
    rd (u.2.1 47 x0) (fun v7 => 
    rd (wadd v7 x3) (fun v8 => 
    sw (iA u 47 x0 v8) (fun u => 
    rd (u.2.1 47 x0) (fun v9 => 
    br (400 < v9) (
      ztp 0 (Q 0 u)) (
      ztp 1 (Q 1 u)))))))))))) (
    ovp (x4 - 1) (
    bdp (x4 - 1) 30 (rd (u.2.1 49 (30 * x0 + (x4 - 1))) (fun v11 => 
    bdp x4 30 (sw (iA u 49 (30 * x0 + x4) v11) (fun u => 
    ovp (x4 + (-1)) (
    R60 x0 x1 x2 x3 (x4 + (-1)) u)))))))
theorem cj_v_1_insert_60b {Q1 Q2 Q3 : Int → iST → Prop} {R601 R602 R603 : Int → Int → Int → Int → Int → iST → Prop} {x0 : Int} {x1 : Int} {x2 : Int} {x3 : Int} {x4 : Int} {u : iST} (hR60 : ∀ r0 r1 r2 r3 r4 r5, R601 r0 r1 r2 r3 r4 r5 → R602 r0 r1 r2 r3 r4 r5 → R603 r0 r1 r2 r3 r4 r5) (hQ : ∀ r0 r1, Q1 r0 r1 → Q2 r0 r1 → Q3 r0 r1) : v_1_insert_60b R601 Q1 x0 x1 x2 x3 x4 u → pv_1_insert_60b R602 Q2 x0 x1 x2 x3 x4 u → v_1_insert_60b R603 Q3 x0 x1 x2 x3 x4 u := (br_cj (bd_cj (sw_cj fun _ => (rd_cj fun _ => (ov_cj (sw_cj fun _ => (rd_cj fun _ => (rd_cj fun _ => (sw_cj fun _ => (rd_cj fun _ => (br_cj (zt_cj (hQ _ _)) (zt_cj (hQ _ _)))))))))))) (ov_cj (bd_cj (rd_cj fun _ => (bd_cj (sw_cj fun _ => (ov_cj (hR60 _ _ _ _ _ _))))))))
theorem mn_v_1_insert_60b {Q1 Q2 : Int → iST → Prop} {R601 R602 : Int → Int → Int → Int → Int → iST → Prop} {x0 : Int} {x1 : Int} {x2 : Int} {x3 : Int} {x4 : Int} {u : iST} (hR60 : ∀ r0 r1 r2 r3 r4 r5, R601 r0 r1 r2 r3 r4 r5 → R602 r0 r1 r2 r3 r4 r5) (hQ : ∀ r0 r1, Q1 r0 r1 → Q2 r0 r1) : pv_1_insert_60b R601 Q1 x0 x1 x2 x3 x4 u → pv_1_insert_60b R602 Q2 x0 x1 x2 x3 x4 u := (br_mn (bd_mn (sw_mn fun _ => (rd_mn fun _ => (ov_mn (sw_mn fun _ => (rd_mn fun _ => (rd_mn fun _ => (sw_mn fun _ => (rd_mn fun _ => (br_mn (zt_mn (hQ _ _)) (zt_mn (hQ _ _)))))))))))) (ov_mn (bd_mn (rd_mn fun _ => (bd_mn (sw_mn fun _ => (ov_mn (hR60 _ _ _ _ _ _))))))))
theorem wp_v_1_insert_60b {Q1 Q2 : Int → iST → Prop} {R601 R602 : Int → Int → Int → Int → Int → iST → Prop} {x0 : Int} {x1 : Int} {x2 : Int} {x3 : Int} {x4 : Int} {u : iST} (hR60 : ∀ r0 r1 r2 r3 r4 r5, R601 r0 r1 r2 r3 r4 r5 → R602 r0 r1 r2 r3 r4 r5) (hQ : ∀ r0 r1, Q1 r0 r1 → Q2 r0 r1) : v_1_insert_60b R601 Q1 x0 x1 x2 x3 x4 u → pv_1_insert_60b R602 Q2 x0 x1 x2 x3 x4 u := (br_wp (bd_wp (sw_wp fun _ => (rd_wp fun _ => (ov_wp (sw_wp fun _ => (rd_wp fun _ => (rd_wp fun _ => (sw_wp fun _ => (rd_wp fun _ => (br_wp (zt_wp (hQ _ _)) (zt_wp (hQ _ _)))))))))))) (ov_wp (bd_wp (rd_wp fun _ => (bd_wp (sw_wp fun _ => (ov_wp (hR60 _ _ _ _ _ _))))))))
def pv_1_insert_60 (Q : Int → iST → Prop) (x0 : Int) (x1 : Int) (x2 : Int) (x3 : Int) (x4 : Int) (u : iST) : Prop := ∃ R60 : Int → Int → Int → Int → Int → iST → Prop, (∀ (x0 : Int) (x1 : Int) (x2 : Int) (x3 : Int) (x4 : Int) (u : iST), R60 x0 x1 x2 x3 x4 u → pv_1_insert_60b R60 Q x0 x1 x2 x3 x4 u) ∧ R60 x0 x1 x2 x3 x4 u
theorem cj_v_1_insert_60 {Q1 Q2 Q3 : Int → iST → Prop}  {x0 : Int} {x1 : Int} {x2 : Int} {x3 : Int} {x4 : Int} {u : iST} (hQ : ∀ r0 r1, Q1 r0 r1 → Q2 r0 r1 → Q3 r0 r1) : v_1_insert_60 Q1 x0 x1 x2 x3 x4 u → pv_1_insert_60 Q2 x0 x1 x2 x3 x4 u → v_1_insert_60 Q3 x0 x1 x2 x3 x4 u := by
  intro a b R3 c3
  obtain ⟨R2, c2, b2⟩ := b
  exact a (fun r0 r1 r2 r3 r4 r5 => R2 r0 r1 r2 r3 r4 r5 → R3 r0 r1 r2 r3 r4 r5) (fun r0 r1 r2 r3 r4 r5 a b => c3 r0 r1 r2 r3 r4 r5 (cj_v_1_insert_60b (fun r0 r1 r2 r3 r4 r5 a b => a b) hQ a (c2 r0 r1 r2 r3 r4 r5 b))) b2
theorem pv_1_insert_60_i  {Q : Int → iST → Prop} {x0 : Int} {x1 : Int} {x2 : Int} {x3 : Int} {x4 : Int} {u : iST} (I : Int → Int → Int → Int → Int → iST → Prop) (s : ∀ (x0 : Int) (x1 : Int) (x2 : Int) (x3 : Int) (x4 : Int) (u : iST), I x0 x1 x2 x3 x4 u → pv_1_insert_60b I Q x0 x1 x2 x3 x4 u) (h : I x0 x1 x2 x3 x4 u) : pv_1_insert_60 Q x0 x1 x2 x3 x4 u := ⟨I, s, h⟩
theorem mn_v_1_insert_60 {Q1 Q2 : Int → iST → Prop}  {x0 : Int} {x1 : Int} {x2 : Int} {x3 : Int} {x4 : Int} {u : iST} (hQ : ∀ r0 r1, Q1 r0 r1 → Q2 r0 r1) : pv_1_insert_60 Q1 x0 x1 x2 x3 x4 u → pv_1_insert_60 Q2 x0 x1 x2 x3 x4 u := fun ⟨R, s, h⟩ => ⟨R, fun r0 r1 r2 r3 r4 r5 a => mn_v_1_insert_60b (fun r0 r1 r2 r3 r4 r5 a => a) hQ (s r0 r1 r2 r3 r4 r5 a), h⟩
theorem un_v_1_insert_60  {Q : Int → iST → Prop} {x0 : Int} {x1 : Int} {x2 : Int} {x3 : Int} {x4 : Int} {u : iST} : pv_1_insert_60 Q x0 x1 x2 x3 x4 u → pv_1_insert_60b (fun x0 x1 x2 x3 x4 u => pv_1_insert_60 Q x0 x1 x2 x3 x4 u) Q x0 x1 x2 x3 x4 u := fun ⟨R, s, h⟩ => mn_v_1_insert_60b (fun r0 r1 r2 r3 r4 r5 a => ⟨R, s, a⟩) (fun _ _ h => h) (s _ _ _ _ _ _ h)
theorem fo_v_1_insert_60  {Q : Int → iST → Prop} {x0 : Int} {x1 : Int} {x2 : Int} {x3 : Int} {x4 : Int} {u : iST} : pv_1_insert_60b (fun x0 x1 x2 x3 x4 u => pv_1_insert_60 Q x0 x1 x2 x3 x4 u) Q x0 x1 x2 x3 x4 u → pv_1_insert_60 Q x0 x1 x2 x3 x4 u := fun h => ⟨fun x0 x1 x2 x3 x4 u => pv_1_insert_60b (fun x0 x1 x2 x3 x4 u => pv_1_insert_60 Q x0 x1 x2 x3 x4 u) Q x0 x1 x2 x3 x4 u, fun r0 r1 r2 r3 r4 r5 a => mn_v_1_insert_60b (fun r0 r1 r2 r3 r4 r5 a => un_v_1_insert_60 a) (fun _ _ h => h) a, h⟩
theorem wp_v_1_insert_60 {Q1 Q2 : Int → iST → Prop}  {x0 : Int} {x1 : Int} {x2 : Int} {x3 : Int} {x4 : Int} {u : iST} (hQ : ∀ r0 r1, Q1 r0 r1 → Q2 r0 r1) : v_1_insert_60 Q1 x0 x1 x2 x3 x4 u → pv_1_insert_60 Q2 x0 x1 x2 x3 x4 u := fun a => a (fun x0 x1 x2 x3 x4 u => pv_1_insert_60 Q2 x0 x1 x2 x3 x4 u) (fun x0 x1 x2 x3 x4 u b => fo_v_1_insert_60 (wp_v_1_insert_60b (fun r0 r1 r2 r3 r4 r5 a => a) hQ b))
def pv_1_insert_3b (R3 : Int → Int → Int → Int → Int → iST → Prop) (Q : Int → iST → Prop) (x0 : Int) (x1 : Int) (x2 : Int) (x3 : Int) (x4 : Int) (u : iST) : Prop :=
  rd (u.2.1 46 x0) (fun v1 => 
  br (v1 ≤ x4) (
    br (x1 < 0) (
      ztp 0 (Q 0 u)) (
      rd (u.2.1 46 x0) (fun v2 => 
      br (v2 < x1) (
        ztp 0 (Q 0 u)) (
        rd (u.2.1 46 x0) (fun v3 => 
        br (v3 < 30) (
          rd (u.2.1 46 x0) (fun v4 => 
          pv_1_insert_60 Q x0 x1 x2 x3 v4 u)) (
          ztp 0 (Q 0 u))))))) (
    bdp x4 30 (rd (u.2.1 49 (30 * x0 + x4)) (fun v13 => 
    br (v13 ≠ x2) (
      ovp (x4 + 1) (
      R3 x0 x1 x2 x3 (x4 + 1) u)) (
      ztp 1 (Q 1 u))))))
theorem cj_v_1_insert_3b {Q1 Q2 Q3 : Int → iST → Prop} {R31 R32 R33 : Int → Int → Int → Int → Int → iST → Prop} {x0 : Int} {x1 : Int} {x2 : Int} {x3 : Int} {x4 : Int} {u : iST} (hR3 : ∀ r0 r1 r2 r3 r4 r5, R31 r0 r1 r2 r3 r4 r5 → R32 r0 r1 r2 r3 r4 r5 → R33 r0 r1 r2 r3 r4 r5) (hQ : ∀ r0 r1, Q1 r0 r1 → Q2 r0 r1 → Q3 r0 r1) : v_1_insert_3b R31 Q1 x0 x1 x2 x3 x4 u → pv_1_insert_3b R32 Q2 x0 x1 x2 x3 x4 u → v_1_insert_3b R33 Q3 x0 x1 x2 x3 x4 u := (rd_cj fun _ => (br_cj (br_cj (zt_cj (hQ _ _)) (rd_cj fun _ => (br_cj (zt_cj (hQ _ _)) (rd_cj fun _ => (br_cj (rd_cj fun _ => (cj_v_1_insert_60  hQ)) (zt_cj (hQ _ _))))))) (bd_cj (rd_cj fun _ => (br_cj (ov_cj (hR3 _ _ _ _ _ _)) (zt_cj (hQ _ _)))))))
theorem mn_v_1_insert_3b {Q1 Q2 : Int → iST → Prop} {R31 R32 : Int → Int → Int → Int → Int → iST → Prop} {x0 : Int} {x1 : Int} {x2 : Int} {x3 : Int} {x4 : Int} {u : iST} (hR3 : ∀ r0 r1 r2 r3 r4 r5, R31 r0 r1 r2 r3 r4 r5 → R32 r0 r1 r2 r3 r4 r5) (hQ : ∀ r0 r1, Q1 r0 r1 → Q2 r0 r1) : pv_1_insert_3b R31 Q1 x0 x1 x2 x3 x4 u → pv_1_insert_3b R32 Q2 x0 x1 x2 x3 x4 u := (rd_mn fun _ => (br_mn (br_mn (zt_mn (hQ _ _)) (rd_mn fun _ => (br_mn (zt_mn (hQ _ _)) (rd_mn fun _ => (br_mn (rd_mn fun _ => (mn_v_1_insert_60  hQ)) (zt_mn (hQ _ _))))))) (bd_mn (rd_mn fun _ => (br_mn (ov_mn (hR3 _ _ _ _ _ _)) (zt_mn (hQ _ _)))))))
theorem wp_v_1_insert_3b {Q1 Q2 : Int → iST → Prop} {R31 R32 : Int → Int → Int → Int → Int → iST → Prop} {x0 : Int} {x1 : Int} {x2 : Int} {x3 : Int} {x4 : Int} {u : iST} (hR3 : ∀ r0 r1 r2 r3 r4 r5, R31 r0 r1 r2 r3 r4 r5 → R32 r0 r1 r2 r3 r4 r5) (hQ : ∀ r0 r1, Q1 r0 r1 → Q2 r0 r1) : v_1_insert_3b R31 Q1 x0 x1 x2 x3 x4 u → pv_1_insert_3b R32 Q2 x0 x1 x2 x3 x4 u := (rd_wp fun _ => (br_wp (br_wp (zt_wp (hQ _ _)) (rd_wp fun _ => (br_wp (zt_wp (hQ _ _)) (rd_wp fun _ => (br_wp (rd_wp fun _ => (wp_v_1_insert_60  hQ)) (zt_wp (hQ _ _))))))) (bd_wp (rd_wp fun _ => (br_wp (ov_wp (hR3 _ _ _ _ _ _)) (zt_wp (hQ _ _)))))))
def pv_1_insert_3 (Q : Int → iST → Prop) (x0 : Int) (x1 : Int) (x2 : Int) (x3 : Int) (x4 : Int) (u : iST) : Prop := ∃ R3 : Int → Int → Int → Int → Int → iST → Prop, (∀ (x0 : Int) (x1 : Int) (x2 : Int) (x3 : Int) (x4 : Int) (u : iST), R3 x0 x1 x2 x3 x4 u → pv_1_insert_3b R3 Q x0 x1 x2 x3 x4 u) ∧ R3 x0 x1 x2 x3 x4 u
theorem cj_v_1_insert_3 {Q1 Q2 Q3 : Int → iST → Prop}  {x0 : Int} {x1 : Int} {x2 : Int} {x3 : Int} {x4 : Int} {u : iST} (hQ : ∀ r0 r1, Q1 r0 r1 → Q2 r0 r1 → Q3 r0 r1) : v_1_insert_3 Q1 x0 x1 x2 x3 x4 u → pv_1_insert_3 Q2 x0 x1 x2 x3 x4 u → v_1_insert_3 Q3 x0 x1 x2 x3 x4 u := by
  intro a b R3 c3
  obtain ⟨R2, c2, b2⟩ := b
  exact a (fun r0 r1 r2 r3 r4 r5 => R2 r0 r1 r2 r3 r4 r5 → R3 r0 r1 r2 r3 r4 r5) (fun r0 r1 r2 r3 r4 r5 a b => c3 r0 r1 r2 r3 r4 r5 (cj_v_1_insert_3b (fun r0 r1 r2 r3 r4 r5 a b => a b) hQ a (c2 r0 r1 r2 r3 r4 r5 b))) b2
theorem pv_1_insert_3_i  {Q : Int → iST → Prop} {x0 : Int} {x1 : Int} {x2 : Int} {x3 : Int} {x4 : Int} {u : iST} (I : Int → Int → Int → Int → Int → iST → Prop) (s : ∀ (x0 : Int) (x1 : Int) (x2 : Int) (x3 : Int) (x4 : Int) (u : iST), I x0 x1 x2 x3 x4 u → pv_1_insert_3b I Q x0 x1 x2 x3 x4 u) (h : I x0 x1 x2 x3 x4 u) : pv_1_insert_3 Q x0 x1 x2 x3 x4 u := ⟨I, s, h⟩
theorem mn_v_1_insert_3 {Q1 Q2 : Int → iST → Prop}  {x0 : Int} {x1 : Int} {x2 : Int} {x3 : Int} {x4 : Int} {u : iST} (hQ : ∀ r0 r1, Q1 r0 r1 → Q2 r0 r1) : pv_1_insert_3 Q1 x0 x1 x2 x3 x4 u → pv_1_insert_3 Q2 x0 x1 x2 x3 x4 u := fun ⟨R, s, h⟩ => ⟨R, fun r0 r1 r2 r3 r4 r5 a => mn_v_1_insert_3b (fun r0 r1 r2 r3 r4 r5 a => a) hQ (s r0 r1 r2 r3 r4 r5 a), h⟩
theorem un_v_1_insert_3  {Q : Int → iST → Prop} {x0 : Int} {x1 : Int} {x2 : Int} {x3 : Int} {x4 : Int} {u : iST} : pv_1_insert_3 Q x0 x1 x2 x3 x4 u → pv_1_insert_3b (fun x0 x1 x2 x3 x4 u => pv_1_insert_3 Q x0 x1 x2 x3 x4 u) Q x0 x1 x2 x3 x4 u := fun ⟨R, s, h⟩ => mn_v_1_insert_3b (fun r0 r1 r2 r3 r4 r5 a => ⟨R, s, a⟩) (fun _ _ h => h) (s _ _ _ _ _ _ h)
theorem fo_v_1_insert_3  {Q : Int → iST → Prop} {x0 : Int} {x1 : Int} {x2 : Int} {x3 : Int} {x4 : Int} {u : iST} : pv_1_insert_3b (fun x0 x1 x2 x3 x4 u => pv_1_insert_3 Q x0 x1 x2 x3 x4 u) Q x0 x1 x2 x3 x4 u → pv_1_insert_3 Q x0 x1 x2 x3 x4 u := fun h => ⟨fun x0 x1 x2 x3 x4 u => pv_1_insert_3b (fun x0 x1 x2 x3 x4 u => pv_1_insert_3 Q x0 x1 x2 x3 x4 u) Q x0 x1 x2 x3 x4 u, fun r0 r1 r2 r3 r4 r5 a => mn_v_1_insert_3b (fun r0 r1 r2 r3 r4 r5 a => un_v_1_insert_3 a) (fun _ _ h => h) a, h⟩
theorem wp_v_1_insert_3 {Q1 Q2 : Int → iST → Prop}  {x0 : Int} {x1 : Int} {x2 : Int} {x3 : Int} {x4 : Int} {u : iST} (hQ : ∀ r0 r1, Q1 r0 r1 → Q2 r0 r1) : v_1_insert_3 Q1 x0 x1 x2 x3 x4 u → pv_1_insert_3 Q2 x0 x1 x2 x3 x4 u := fun a => a (fun x0 x1 x2 x3 x4 u => pv_1_insert_3 Q2 x0 x1 x2 x3 x4 u) (fun x0 x1 x2 x3 x4 u b => fo_v_1_insert_3 (wp_v_1_insert_3b (fun r0 r1 r2 r3 r4 r5 a => a) hQ b))
def pv_1_insert (th : Int) (a0 : Int) (a1 : Int) (a2 : Int) (Q : Int → iST → Prop) (u : iST) : Prop :=
  pv_1_insert_3 Q th a0 a1 a2 0 u
theorem cj_v_1_insert {Q1 Q2 Q3 : Int → iST → Prop}  {th : Int} {a0 : Int} {a1 : Int} {a2 : Int} {u : iST} (hQ : ∀ r0 r1, Q1 r0 r1 → Q2 r0 r1 → Q3 r0 r1) : v_1_insert th a0 a1 a2 Q1 u → pv_1_insert th a0 a1 a2 Q2 u → v_1_insert th a0 a1 a2 Q3 u := (cj_v_1_insert_3  hQ)
theorem mn_v_1_insert {Q1 Q2 : Int → iST → Prop}  {th : Int} {a0 : Int} {a1 : Int} {a2 : Int} {u : iST} (hQ : ∀ r0 r1, Q1 r0 r1 → Q2 r0 r1) : pv_1_insert th a0 a1 a2 Q1 u → pv_1_insert th a0 a1 a2 Q2 u := (mn_v_1_insert_3  hQ)
theorem wp_v_1_insert {Q1 Q2 : Int → iST → Prop}  {th : Int} {a0 : Int} {a1 : Int} {a2 : Int} {u : iST} (hQ : ∀ r0 r1, Q1 r0 r1 → Q2 r0 r1) : v_1_insert th a0 a1 a2 Q1 u → pv_1_insert th a0 a1 a2 Q2 u := (wp_v_1_insert_3  hQ)
def pv_1_isTooBig (th : Int) (Q : Int → iST → Prop) (u : iST) : Prop :=
  rd (u.2.1 47 th) (fun v1 => 
  br (v1 ≤ 400) (
    ztp 0 (Q 0 u)) (
    ztp 1 (Q 1 u)))
theorem cj_v_1_isTooBig {Q1 Q2 Q3 : Int → iST → Prop}  {th : Int} {u : iST} (hQ : ∀ r0 r1, Q1 r0 r1 → Q2 r0 r1 → Q3 r0 r1) : v_1_isTooBig th Q1 u → pv_1_isTooBig th Q2 u → v_1_isTooBig th Q3 u := (rd_cj fun _ => (br_cj (zt_cj (hQ _ _)) (zt_cj (hQ _ _))))
theorem mn_v_1_isTooBig {Q1 Q2 : Int → iST → Prop}  {th : Int} {u : iST} (hQ : ∀ r0 r1, Q1 r0 r1 → Q2 r0 r1) : pv_1_isTooBig th Q1 u → pv_1_isTooBig th Q2 u := (rd_mn fun _ => (br_mn (zt_mn (hQ _ _)) (zt_mn (hQ _ _))))
theorem wp_v_1_isTooBig {Q1 Q2 : Int → iST → Prop}  {th : Int} {u : iST} (hQ : ∀ r0 r1, Q1 r0 r1 → Q2 r0 r1) : v_1_isTooBig th Q1 u → pv_1_isTooBig th Q2 u := (rd_wp fun _ => (br_wp (zt_wp (hQ _ _)) (zt_wp (hQ _ _))))
def pv_1_remove_17b (R17 : Int → Int → Int → iST → Prop) (Q : iST → Prop) (x0 : Int) (x2 : Int) (x3 : Int) (u : iST) : Prop :=
  rd (u.2.1 46 x0) (fun v3 => 
  br (v3 ≤ x3) (
    rd (u.2.1 46 x0) (fun v4 => 
    ovp (v4 - 1) (
    sw (iA u 46 x0 (v4 - 1)) (fun u => 
    rd (u.2.1 47 x0) (fun v6 => 
    rd (wsub v6 x2) (fun v7 => 
    sw (iA u 47 x0 v7) (fun u => 
    Q u))))))) (
    ovp (x3 - 1) (
    bdp x3 30 (rd (u.2.1 49 (30 * x0 + x3)) (fun v9 => 
    bdp (x3 - 1) 30 (sw (iA u 49 (30 * x0 + (x3 - 1)) v9) (fun u => 
    ovp (x3 + 1) (
    R17 x0 x2 (x3 + 1) u))))))))
theorem cj_v_1_remove_17b {Q1 Q2 Q3 : iST → Prop} {R171 R172 R173 : Int → Int → Int → iST → Prop} {x0 : Int} {x2 : Int} {x3 : Int} {u : iST} (hR17 : ∀ r0 r1 r2 r3, R171 r0 r1 r2 r3 → R172 r0 r1 r2 r3 → R173 r0 r1 r2 r3) (hQ : ∀ r0, Q1 r0 → Q2 r0 → Q3 r0) : v_1_remove_17b R171 Q1 x0 x2 x3 u → pv_1_remove_17b R172 Q2 x0 x2 x3 u → v_1_remove_17b R173 Q3 x0 x2 x3 u := (rd_cj fun _ => (br_cj (rd_cj fun _ => (ov_cj (sw_cj fun _ => (rd_cj fun _ => (rd_cj fun _ => (sw_cj fun _ => (hQ _))))))) (ov_cj (bd_cj (rd_cj fun _ => (bd_cj (sw_cj fun _ => (ov_cj (hR17 _ _ _ _)))))))))
theorem mn_v_1_remove_17b {Q1 Q2 : iST → Prop} {R171 R172 : Int → Int → Int → iST → Prop} {x0 : Int} {x2 : Int} {x3 : Int} {u : iST} (hR17 : ∀ r0 r1 r2 r3, R171 r0 r1 r2 r3 → R172 r0 r1 r2 r3) (hQ : ∀ r0, Q1 r0 → Q2 r0) : pv_1_remove_17b R171 Q1 x0 x2 x3 u → pv_1_remove_17b R172 Q2 x0 x2 x3 u := (rd_mn fun _ => (br_mn (rd_mn fun _ => (ov_mn (sw_mn fun _ => (rd_mn fun _ => (rd_mn fun _ => (sw_mn fun _ => (hQ _))))))) (ov_mn (bd_mn (rd_mn fun _ => (bd_mn (sw_mn fun _ => (ov_mn (hR17 _ _ _ _)))))))))
theorem wp_v_1_remove_17b {Q1 Q2 : iST → Prop} {R171 R172 : Int → Int → Int → iST → Prop} {x0 : Int} {x2 : Int} {x3 : Int} {u : iST} (hR17 : ∀ r0 r1 r2 r3, R171 r0 r1 r2 r3 → R172 r0 r1 r2 r3) (hQ : ∀ r0, Q1 r0 → Q2 r0) : v_1_remove_17b R171 Q1 x0 x2 x3 u → pv_1_remove_17b R172 Q2 x0 x2 x3 u := (rd_wp fun _ => (br_wp (rd_wp fun _ => (ov_wp (sw_wp fun _ => (rd_wp fun _ => (rd_wp fun _ => (sw_wp fun _ => (hQ _))))))) (ov_wp (bd_wp (rd_wp fun _ => (bd_wp (sw_wp fun _ => (ov_wp (hR17 _ _ _ _)))))))))
def pv_1_remove_17 (Q : iST → Prop) (x0 : Int) (x2 : Int) (x3 : Int) (u : iST) : Prop := ∃ R17 : Int → Int → Int → iST → Prop, (∀ (x0 : Int) (x2 : Int) (x3 : Int) (u : iST), R17 x0 x2 x3 u → pv_1_remove_17b R17 Q x0 x2 x3 u) ∧ R17 x0 x2 x3 u
theorem cj_v_1_remove_17 {Q1 Q2 Q3 : iST → Prop}  {x0 : Int} {x2 : Int} {x3 : Int} {u : iST} (hQ : ∀ r0, Q1 r0 → Q2 r0 → Q3 r0) : v_1_remove_17 Q1 x0 x2 x3 u → pv_1_remove_17 Q2 x0 x2 x3 u → v_1_remove_17 Q3 x0 x2 x3 u := by
  intro a b R3 c3
  obtain ⟨R2, c2, b2⟩ := b
  exact a (fun r0 r1 r2 r3 => R2 r0 r1 r2 r3 → R3 r0 r1 r2 r3) (fun r0 r1 r2 r3 a b => c3 r0 r1 r2 r3 (cj_v_1_remove_17b (fun r0 r1 r2 r3 a b => a b) hQ a (c2 r0 r1 r2 r3 b))) b2
theorem pv_1_remove_17_i  {Q : iST → Prop} {x0 : Int} {x2 : Int} {x3 : Int} {u : iST} (I : Int → Int → Int → iST → Prop) (s : ∀ (x0 : Int) (x2 : Int) (x3 : Int) (u : iST), I x0 x2 x3 u → pv_1_remove_17b I Q x0 x2 x3 u) (h : I x0 x2 x3 u) : pv_1_remove_17 Q x0 x2 x3 u := ⟨I, s, h⟩
theorem mn_v_1_remove_17 {Q1 Q2 : iST → Prop}  {x0 : Int} {x2 : Int} {x3 : Int} {u : iST} (hQ : ∀ r0, Q1 r0 → Q2 r0) : pv_1_remove_17 Q1 x0 x2 x3 u → pv_1_remove_17 Q2 x0 x2 x3 u := fun ⟨R, s, h⟩ => ⟨R, fun r0 r1 r2 r3 a => mn_v_1_remove_17b (fun r0 r1 r2 r3 a => a) hQ (s r0 r1 r2 r3 a), h⟩
theorem un_v_1_remove_17  {Q : iST → Prop} {x0 : Int} {x2 : Int} {x3 : Int} {u : iST} : pv_1_remove_17 Q x0 x2 x3 u → pv_1_remove_17b (fun x0 x2 x3 u => pv_1_remove_17 Q x0 x2 x3 u) Q x0 x2 x3 u := fun ⟨R, s, h⟩ => mn_v_1_remove_17b (fun r0 r1 r2 r3 a => ⟨R, s, a⟩) (fun _ h => h) (s _ _ _ _ h)
theorem fo_v_1_remove_17  {Q : iST → Prop} {x0 : Int} {x2 : Int} {x3 : Int} {u : iST} : pv_1_remove_17b (fun x0 x2 x3 u => pv_1_remove_17 Q x0 x2 x3 u) Q x0 x2 x3 u → pv_1_remove_17 Q x0 x2 x3 u := fun h => ⟨fun x0 x2 x3 u => pv_1_remove_17b (fun x0 x2 x3 u => pv_1_remove_17 Q x0 x2 x3 u) Q x0 x2 x3 u, fun r0 r1 r2 r3 a => mn_v_1_remove_17b (fun r0 r1 r2 r3 a => un_v_1_remove_17 a) (fun _ h => h) a, h⟩
theorem wp_v_1_remove_17 {Q1 Q2 : iST → Prop}  {x0 : Int} {x2 : Int} {x3 : Int} {u : iST} (hQ : ∀ r0, Q1 r0 → Q2 r0) : v_1_remove_17 Q1 x0 x2 x3 u → pv_1_remove_17 Q2 x0 x2 x3 u := fun a => a (fun x0 x2 x3 u => pv_1_remove_17 Q2 x0 x2 x3 u) (fun x0 x2 x3 u b => fo_v_1_remove_17 (wp_v_1_remove_17b (fun r0 r1 r2 r3 a => a) hQ b))
def pv_1_remove (th : Int) (a0 : Int) (a1 : Int) (Q : iST → Prop) (u : iST) : Prop :=
  br (a0 < 0) (
    Q u) (
    rd (u.2.1 46 th) (fun v1 => 
    br (a0 < v1) (
      ovp (a0 + 1) (
      pv_1_remove_17 Q th a1 (a0 + 1) u)) (
      Q u)))
theorem cj_v_1_remove {Q1 Q2 Q3 : iST → Prop}  {th : Int} {a0 : Int} {a1 : Int} {u : iST} (hQ : ∀ r0, Q1 r0 → Q2 r0 → Q3 r0) : v_1_remove th a0 a1 Q1 u → pv_1_remove th a0 a1 Q2 u → v_1_remove th a0 a1 Q3 u := (br_cj (hQ _) (rd_cj fun _ => (br_cj (ov_cj (cj_v_1_remove_17  hQ)) (hQ _))))
theorem mn_v_1_remove {Q1 Q2 : iST → Prop}  {th : Int} {a0 : Int} {a1 : Int} {u : iST} (hQ : ∀ r0, Q1 r0 → Q2 r0) : pv_1_remove th a0 a1 Q1 u → pv_1_remove th a0 a1 Q2 u := (br_mn (hQ _) (rd_mn fun _ => (br_mn (ov_mn (mn_v_1_remove_17  hQ)) (hQ _))))
theorem wp_v_1_remove {Q1 Q2 : iST → Prop}  {th : Int} {a0 : Int} {a1 : Int} {u : iST} (hQ : ∀ r0, Q1 r0 → Q2 r0) : v_1_remove th a0 a1 Q1 u → pv_1_remove th a0 a1 Q2 u := (br_wp (hQ _) (rd_wp fun _ => (br_wp (ov_wp (wp_v_1_remove_17  hQ)) (hQ _))))
def pv_7_isCall (a0 : Int) (Q : Int → iST → Prop) (u : iST) : Prop :=
  br (a0 < 0) (
    ztp 0 (Q 0 u)) (
    rd (u.1 29) (fun v1 => 
    br (v1 ≤ a0) (
      ztp 0 (Q 0 u)) (
      bdp a0 160000 (rl (u.2.2 a0) (fun v2 => 
      br (0 ≤ v2) (
        ztp 0 (Q 0 u)) (
        bdp a0 160000 (rl (u.2.2 a0) (fun v3 => 
        rl (wlushr v3 31) (fun v4 => 
        rd (wl2i v4) (fun v5 => 
        rd (wand v5 2147483647) (fun v6 => 
        br (v6 = 2) (
          ztp 0 (Q 0 u)) (
          ztp 1 (Q 1 u)))))))))))))
theorem cj_v_7_isCall {Q1 Q2 Q3 : Int → iST → Prop}  {a0 : Int} {u : iST} (hQ : ∀ r0 r1, Q1 r0 r1 → Q2 r0 r1 → Q3 r0 r1) : v_7_isCall a0 Q1 u → pv_7_isCall a0 Q2 u → v_7_isCall a0 Q3 u := (br_cj (zt_cj (hQ _ _)) (rd_cj fun _ => (br_cj (zt_cj (hQ _ _)) (bd_cj (rl_cj fun _ => (br_cj (zt_cj (hQ _ _)) (bd_cj (rl_cj fun _ => (rl_cj fun _ => (rd_cj fun _ => (rd_cj fun _ => (br_cj (zt_cj (hQ _ _)) (zt_cj (hQ _ _))))))))))))))
theorem mn_v_7_isCall {Q1 Q2 : Int → iST → Prop}  {a0 : Int} {u : iST} (hQ : ∀ r0 r1, Q1 r0 r1 → Q2 r0 r1) : pv_7_isCall a0 Q1 u → pv_7_isCall a0 Q2 u := (br_mn (zt_mn (hQ _ _)) (rd_mn fun _ => (br_mn (zt_mn (hQ _ _)) (bd_mn (rl_mn fun _ => (br_mn (zt_mn (hQ _ _)) (bd_mn (rl_mn fun _ => (rl_mn fun _ => (rd_mn fun _ => (rd_mn fun _ => (br_mn (zt_mn (hQ _ _)) (zt_mn (hQ _ _))))))))))))))
theorem wp_v_7_isCall {Q1 Q2 : Int → iST → Prop}  {a0 : Int} {u : iST} (hQ : ∀ r0 r1, Q1 r0 r1 → Q2 r0 r1) : v_7_isCall a0 Q1 u → pv_7_isCall a0 Q2 u := (br_wp (zt_wp (hQ _ _)) (rd_wp fun _ => (br_wp (zt_wp (hQ _ _)) (bd_wp (rl_wp fun _ => (br_wp (zt_wp (hQ _ _)) (bd_wp (rl_wp fun _ => (rl_wp fun _ => (rd_wp fun _ => (rd_wp fun _ => (br_wp (zt_wp (hQ _ _)) (zt_wp (hQ _ _))))))))))))))
def pv_7_step_27 (Q : Int → iST → Prop) (y1 : Int) (u : iST) : Prop :=
  sw (iI u 32 y1) (fun u => 
  ztp 0 (Q 0 u))
theorem cj_v_7_step_27 {Q1 Q2 Q3 : Int → iST → Prop}  {y1 : Int} {u : iST} (hQ : ∀ r0 r1, Q1 r0 r1 → Q2 r0 r1 → Q3 r0 r1) : v_7_step_27 Q1 y1 u → pv_7_step_27 Q2 y1 u → v_7_step_27 Q3 y1 u := (sw_cj fun _ => (zt_cj (hQ _ _)))
theorem mn_v_7_step_27 {Q1 Q2 : Int → iST → Prop}  {y1 : Int} {u : iST} (hQ : ∀ r0 r1, Q1 r0 r1 → Q2 r0 r1) : pv_7_step_27 Q1 y1 u → pv_7_step_27 Q2 y1 u := (sw_mn fun _ => (zt_mn (hQ _ _)))
theorem wp_v_7_step_27 {Q1 Q2 : Int → iST → Prop}  {y1 : Int} {u : iST} (hQ : ∀ r0 r1, Q1 r0 r1 → Q2 r0 r1) : v_7_step_27 Q1 y1 u → pv_7_step_27 Q2 y1 u := (sw_wp fun _ => (zt_wp (hQ _ _)))
def pv_7_step (Q : Int → iST → Prop) (u : iST) : Prop :=
  rd (u.1 31) (fun v1 => 
  rd (u.1 30) (fun v2 => 
  br (v1 < v2) (
    rd (u.1 31) (fun v3 => 
    ovp (v3 + 1) (
    sw (iI u 31 (v3 + 1)) (fun u => 
    ztp 1 (Q 1 u))))) (
    rd (u.1 32) (fun v5 => 
    br (v5 ≠ 0) (
      rd (u.1 32) (fun v6 => 
      pv_7_step_27 Q v6 u)) (
      pv_7_step_27 Q 1 u)))))
theorem cj_v_7_step {Q1 Q2 Q3 : Int → iST → Prop}  {u : iST} (hQ : ∀ r0 r1, Q1 r0 r1 → Q2 r0 r1 → Q3 r0 r1) : v_7_step Q1 u → pv_7_step Q2 u → v_7_step Q3 u := (rd_cj fun _ => (rd_cj fun _ => (br_cj (rd_cj fun _ => (ov_cj (sw_cj fun _ => (zt_cj (hQ _ _))))) (rd_cj fun _ => (br_cj (rd_cj fun _ => (cj_v_7_step_27  hQ)) (cj_v_7_step_27  hQ))))))
theorem mn_v_7_step {Q1 Q2 : Int → iST → Prop}  {u : iST} (hQ : ∀ r0 r1, Q1 r0 r1 → Q2 r0 r1) : pv_7_step Q1 u → pv_7_step Q2 u := (rd_mn fun _ => (rd_mn fun _ => (br_mn (rd_mn fun _ => (ov_mn (sw_mn fun _ => (zt_mn (hQ _ _))))) (rd_mn fun _ => (br_mn (rd_mn fun _ => (mn_v_7_step_27  hQ)) (mn_v_7_step_27  hQ))))))
theorem wp_v_7_step {Q1 Q2 : Int → iST → Prop}  {u : iST} (hQ : ∀ r0 r1, Q1 r0 r1 → Q2 r0 r1) : v_7_step Q1 u → pv_7_step Q2 u := (rd_wp fun _ => (rd_wp fun _ => (br_wp (rd_wp fun _ => (ov_wp (sw_wp fun _ => (zt_wp (hQ _ _))))) (rd_wp fun _ => (br_wp (rd_wp fun _ => (wp_v_7_step_27  hQ)) (wp_v_7_step_27  hQ))))))
def pv_7_left (a0 : Int) (Q : Int → iST → Prop) (u : iST) : Prop :=
  br (a0 < 0) (
    Q 0 u) (
    rd (u.1 29) (fun v1 => 
    br (v1 ≤ a0) (
      Q 0 u) (
      bdp a0 160000 (rl (u.2.2 a0) (fun v2 => 
      br (0 ≤ v2) (
        Q 0 u) (
        bdp a0 160000 (rl (u.2.2 a0) (fun v3 => 
        rl (wlushr v3 31) (fun v4 => 
        rd (wl2i v4) (fun v5 => 
        rd (wand v5 2147483647) (fun v6 => 
        Q v6 u)))))))))))
theorem cj_v_7_left {Q1 Q2 Q3 : Int → iST → Prop}  {a0 : Int} {u : iST} (hQ : ∀ r0 r1, Q1 r0 r1 → Q2 r0 r1 → Q3 r0 r1) : v_7_left a0 Q1 u → pv_7_left a0 Q2 u → v_7_left a0 Q3 u := (br_cj (hQ _ _) (rd_cj fun _ => (br_cj (hQ _ _) (bd_cj (rl_cj fun _ => (br_cj (hQ _ _) (bd_cj (rl_cj fun _ => (rl_cj fun _ => (rd_cj fun _ => (rd_cj fun _ => (hQ _ _))))))))))))
theorem mn_v_7_left {Q1 Q2 : Int → iST → Prop}  {a0 : Int} {u : iST} (hQ : ∀ r0 r1, Q1 r0 r1 → Q2 r0 r1) : pv_7_left a0 Q1 u → pv_7_left a0 Q2 u := (br_mn (hQ _ _) (rd_mn fun _ => (br_mn (hQ _ _) (bd_mn (rl_mn fun _ => (br_mn (hQ _ _) (bd_mn (rl_mn fun _ => (rl_mn fun _ => (rd_mn fun _ => (rd_mn fun _ => (hQ _ _))))))))))))
theorem wp_v_7_left {Q1 Q2 : Int → iST → Prop}  {a0 : Int} {u : iST} (hQ : ∀ r0 r1, Q1 r0 r1 → Q2 r0 r1) : v_7_left a0 Q1 u → pv_7_left a0 Q2 u := (br_wp (hQ _ _) (rd_wp fun _ => (br_wp (hQ _ _) (bd_wp (rl_wp fun _ => (br_wp (hQ _ _) (bd_wp (rl_wp fun _ => (rl_wp fun _ => (rd_wp fun _ => (rd_wp fun _ => (hQ _ _))))))))))))
def pv_7_right (a0 : Int) (Q : Int → iST → Prop) (u : iST) : Prop :=
  br (a0 < 0) (
    Q 0 u) (
    rd (u.1 29) (fun v1 => 
    br (v1 ≤ a0) (
      Q 0 u) (
      bdp a0 160000 (rl (u.2.2 a0) (fun v2 => 
      br (0 ≤ v2) (
        Q 0 u) (
        bdp a0 160000 (rl (u.2.2 a0) (fun v3 => 
        rd (wl2i v3) (fun v4 => 
        rd (wand v4 2147483647) (fun v5 => 
        Q v5 u))))))))))
theorem cj_v_7_right {Q1 Q2 Q3 : Int → iST → Prop}  {a0 : Int} {u : iST} (hQ : ∀ r0 r1, Q1 r0 r1 → Q2 r0 r1 → Q3 r0 r1) : v_7_right a0 Q1 u → pv_7_right a0 Q2 u → v_7_right a0 Q3 u := (br_cj (hQ _ _) (rd_cj fun _ => (br_cj (hQ _ _) (bd_cj (rl_cj fun _ => (br_cj (hQ _ _) (bd_cj (rl_cj fun _ => (rd_cj fun _ => (rd_cj fun _ => (hQ _ _)))))))))))
theorem mn_v_7_right {Q1 Q2 : Int → iST → Prop}  {a0 : Int} {u : iST} (hQ : ∀ r0 r1, Q1 r0 r1 → Q2 r0 r1) : pv_7_right a0 Q1 u → pv_7_right a0 Q2 u := (br_mn (hQ _ _) (rd_mn fun _ => (br_mn (hQ _ _) (bd_mn (rl_mn fun _ => (br_mn (hQ _ _) (bd_mn (rl_mn fun _ => (rd_mn fun _ => (rd_mn fun _ => (hQ _ _)))))))))))
theorem wp_v_7_right {Q1 Q2 : Int → iST → Prop}  {a0 : Int} {u : iST} (hQ : ∀ r0 r1, Q1 r0 r1 → Q2 r0 r1) : v_7_right a0 Q1 u → pv_7_right a0 Q2 u := (br_wp (hQ _ _) (rd_wp fun _ => (br_wp (hQ _ _) (bd_wp (rl_wp fun _ => (br_wp (hQ _ _) (bd_wp (rl_wp fun _ => (rd_wp fun _ => (rd_wp fun _ => (hQ _ _)))))))))))
def pv_2_begin (a0 : Int) (Q : iST → Prop) (u : iST) : Prop :=
  rd (u.1 4) (fun v1 => 
  br (v1 < 300) (
    rd (u.1 8) (fun v2 => 
    br (v2 ≠ 0) (
      pv_7_step (fun v3 u => 
      br (v3 ≠ 0) (
        rd (u.1 8) (fun v4 => 
        ovp (v4 - 1) (
        sw (iI u 8 (v4 - 1)) (fun u => 
        rd (u.1 4) (fun v6 => 
        pv_7_left a0 (fun v7 u => 
        bdp v6 300 (sw (iA u 16 v6 v7) (fun u => 
        rd (u.1 4) (fun v8 => 
        pv_7_right a0 (fun v9 u => 
        bdp v8 300 (sw (iA u 17 v8 v9) (fun u => 
        rd (u.1 4) (fun v10 => 
        rd (u.1 5) (fun v11 => 
        bdp v10 300 (sw (iA u 18 v10 v11) (fun u => 
        rd (u.1 4) (fun v12 => 
        ztp 0 (bdp v12 300 (sw (iA u 19 v12 0) (fun u => 
        rd (u.1 4) (fun v13 => 
        rd (u.1 6) (fun v14 => 
        bdp v13 300 (sw (iA u 20 v13 v14) (fun u => 
        rd (u.1 4) (fun v15 => 
        rd (u.1 7) (fun v16 => 
        bdp v15 300 (sw (iA u 21 v15 v16) (fun u => 
        rd (u.1 4) (fun v17 => 
        ovp (v17 + 1) (
        sw (iI u 4 (v17 + 1)) (fun u => 
        Q u)))))))))))))))))))))) u)))) u))))) (
        sw (iI u 9 1) (fun u => 
        Q u))) u) (
      sw (iI u 9 5) (fun u => 
      Q u)))) (
    sw (iI u 9 2) (fun u => 
    Q u)))
theorem cj_v_2_begin {Q1 Q2 Q3 : iST → Prop}  {a0 : Int} {u : iST} (hQ : ∀ r0, Q1 r0 → Q2 r0 → Q3 r0) : v_2_begin a0 Q1 u → pv_2_begin a0 Q2 u → v_2_begin a0 Q3 u := (rd_cj fun _ => (br_cj (rd_cj fun _ => (br_cj (cj_v_7_step (fun _ _ => (br_cj (rd_cj fun _ => (ov_cj (sw_cj fun _ => (rd_cj fun _ => (cj_v_7_left (fun _ _ => (bd_cj (sw_cj fun _ => (rd_cj fun _ => (cj_v_7_right (fun _ _ => (bd_cj (sw_cj fun _ => (rd_cj fun _ => (rd_cj fun _ => (bd_cj (sw_cj fun _ => (rd_cj fun _ => (zt_cj (bd_cj (sw_cj fun _ => (rd_cj fun _ => (rd_cj fun _ => (bd_cj (sw_cj fun _ => (rd_cj fun _ => (rd_cj fun _ => (bd_cj (sw_cj fun _ => (rd_cj fun _ => (ov_cj (sw_cj fun _ => (hQ _))))))))))))))))))))))))))))))))) (sw_cj fun _ => (hQ _))))) (sw_cj fun _ => (hQ _)))) (sw_cj fun _ => (hQ _))))
theorem mn_v_2_begin {Q1 Q2 : iST → Prop}  {a0 : Int} {u : iST} (hQ : ∀ r0, Q1 r0 → Q2 r0) : pv_2_begin a0 Q1 u → pv_2_begin a0 Q2 u := (rd_mn fun _ => (br_mn (rd_mn fun _ => (br_mn (mn_v_7_step (fun _ _ => (br_mn (rd_mn fun _ => (ov_mn (sw_mn fun _ => (rd_mn fun _ => (mn_v_7_left (fun _ _ => (bd_mn (sw_mn fun _ => (rd_mn fun _ => (mn_v_7_right (fun _ _ => (bd_mn (sw_mn fun _ => (rd_mn fun _ => (rd_mn fun _ => (bd_mn (sw_mn fun _ => (rd_mn fun _ => (zt_mn (bd_mn (sw_mn fun _ => (rd_mn fun _ => (rd_mn fun _ => (bd_mn (sw_mn fun _ => (rd_mn fun _ => (rd_mn fun _ => (bd_mn (sw_mn fun _ => (rd_mn fun _ => (ov_mn (sw_mn fun _ => (hQ _))))))))))))))))))))))))))))))))) (sw_mn fun _ => (hQ _))))) (sw_mn fun _ => (hQ _)))) (sw_mn fun _ => (hQ _))))
theorem wp_v_2_begin {Q1 Q2 : iST → Prop}  {a0 : Int} {u : iST} (hQ : ∀ r0, Q1 r0 → Q2 r0) : v_2_begin a0 Q1 u → pv_2_begin a0 Q2 u := (rd_wp fun _ => (br_wp (rd_wp fun _ => (br_wp (wp_v_7_step (fun _ _ => (br_wp (rd_wp fun _ => (ov_wp (sw_wp fun _ => (rd_wp fun _ => (wp_v_7_left (fun _ _ => (bd_wp (sw_wp fun _ => (rd_wp fun _ => (wp_v_7_right (fun _ _ => (bd_wp (sw_wp fun _ => (rd_wp fun _ => (rd_wp fun _ => (bd_wp (sw_wp fun _ => (rd_wp fun _ => (zt_wp (bd_wp (sw_wp fun _ => (rd_wp fun _ => (rd_wp fun _ => (bd_wp (sw_wp fun _ => (rd_wp fun _ => (rd_wp fun _ => (bd_wp (sw_wp fun _ => (rd_wp fun _ => (ov_wp (sw_wp fun _ => (hQ _))))))))))))))))))))))))))))))))) (sw_wp fun _ => (hQ _))))) (sw_wp fun _ => (hQ _)))) (sw_wp fun _ => (hQ _))))
def pv_7_isVariable (a0 : Int) (Q : Int → iST → Prop) (u : iST) : Prop :=
  br (a0 ≤ 1) (
    ztp 0 (Q 0 u)) (
    rd (u.1 29) (fun v1 => 
    br (v1 ≤ a0) (
      ztp 0 (Q 0 u)) (
      bdp a0 160000 (rl (u.2.2 a0) (fun v2 => 
      rl (wlushr v2 62) (fun v3 => 
      br (v3 ≠ 1) (
        ztp 0 (Q 0 u)) (
        ztp 1 (Q 1 u))))))))
theorem cj_v_7_isVariable {Q1 Q2 Q3 : Int → iST → Prop}  {a0 : Int} {u : iST} (hQ : ∀ r0 r1, Q1 r0 r1 → Q2 r0 r1 → Q3 r0 r1) : v_7_isVariable a0 Q1 u → pv_7_isVariable a0 Q2 u → v_7_isVariable a0 Q3 u := (br_cj (zt_cj (hQ _ _)) (rd_cj fun _ => (br_cj (zt_cj (hQ _ _)) (bd_cj (rl_cj fun _ => (rl_cj fun _ => (br_cj (zt_cj (hQ _ _)) (zt_cj (hQ _ _)))))))))
theorem mn_v_7_isVariable {Q1 Q2 : Int → iST → Prop}  {a0 : Int} {u : iST} (hQ : ∀ r0 r1, Q1 r0 r1 → Q2 r0 r1) : pv_7_isVariable a0 Q1 u → pv_7_isVariable a0 Q2 u := (br_mn (zt_mn (hQ _ _)) (rd_mn fun _ => (br_mn (zt_mn (hQ _ _)) (bd_mn (rl_mn fun _ => (rl_mn fun _ => (br_mn (zt_mn (hQ _ _)) (zt_mn (hQ _ _)))))))))
theorem wp_v_7_isVariable {Q1 Q2 : Int → iST → Prop}  {a0 : Int} {u : iST} (hQ : ∀ r0 r1, Q1 r0 r1 → Q2 r0 r1) : v_7_isVariable a0 Q1 u → pv_7_isVariable a0 Q2 u := (br_wp (zt_wp (hQ _ _)) (rd_wp fun _ => (br_wp (zt_wp (hQ _ _)) (bd_wp (rl_wp fun _ => (rl_wp fun _ => (br_wp (zt_wp (hQ _ _)) (zt_wp (hQ _ _)))))))))
def pv_7_isPair (a0 : Int) (Q : Int → iST → Prop) (u : iST) : Prop :=
  br (a0 < 0) (
    ztp 0 (Q 0 u)) (
    rd (u.1 29) (fun v1 => 
    br (v1 ≤ a0) (
      ztp 0 (Q 0 u)) (
      bdp a0 160000 (rl (u.2.2 a0) (fun v2 => 
      br (0 ≤ v2) (
        ztp 0 (Q 0 u)) (
        ztp 1 (Q 1 u)))))))
theorem cj_v_7_isPair {Q1 Q2 Q3 : Int → iST → Prop}  {a0 : Int} {u : iST} (hQ : ∀ r0 r1, Q1 r0 r1 → Q2 r0 r1 → Q3 r0 r1) : v_7_isPair a0 Q1 u → pv_7_isPair a0 Q2 u → v_7_isPair a0 Q3 u := (br_cj (zt_cj (hQ _ _)) (rd_cj fun _ => (br_cj (zt_cj (hQ _ _)) (bd_cj (rl_cj fun _ => (br_cj (zt_cj (hQ _ _)) (zt_cj (hQ _ _))))))))
theorem mn_v_7_isPair {Q1 Q2 : Int → iST → Prop}  {a0 : Int} {u : iST} (hQ : ∀ r0 r1, Q1 r0 r1 → Q2 r0 r1) : pv_7_isPair a0 Q1 u → pv_7_isPair a0 Q2 u := (br_mn (zt_mn (hQ _ _)) (rd_mn fun _ => (br_mn (zt_mn (hQ _ _)) (bd_mn (rl_mn fun _ => (br_mn (zt_mn (hQ _ _)) (zt_mn (hQ _ _))))))))
theorem wp_v_7_isPair {Q1 Q2 : Int → iST → Prop}  {a0 : Int} {u : iST} (hQ : ∀ r0 r1, Q1 r0 r1 → Q2 r0 r1) : v_7_isPair a0 Q1 u → pv_7_isPair a0 Q2 u := (br_wp (zt_wp (hQ _ _)) (rd_wp fun _ => (br_wp (zt_wp (hQ _ _)) (bd_wp (rl_wp fun _ => (br_wp (zt_wp (hQ _ _)) (zt_wp (hQ _ _))))))))
def pv_2_parameterValue_33b (R33 : Int → Int → Int → iST → Prop) (Q : Int → iST → Prop) (x1 : Int) (x2 : Int) (x4 : Int) (u : iST) : Prop :=
  pv_7_isPair x4 (fun v5 u => 
  br (v5 = 0) (
    Q 0 u) (
    rd (u.1 5) (fun v6 => 
    br (v6 ≤ x2) (
      Q 0 u) (
      pv_7_left x4 (fun v7 u => 
      br (v7 ≠ x1) (
        ovp (x2 + 1) (
        pv_7_right x4 (fun v9 u => 
        R33 x1 (x2 + 1) v9 u) u)) (
        bdp x2 1803 (rd (u.2.1 22 x2) (fun v10 => 
        Q v10 u)))) u)))) u
theorem cj_v_2_parameterValue_33b {Q1 Q2 Q3 : Int → iST → Prop} {R331 R332 R333 : Int → Int → Int → iST → Prop} {x1 : Int} {x2 : Int} {x4 : Int} {u : iST} (hR33 : ∀ r0 r1 r2 r3, R331 r0 r1 r2 r3 → R332 r0 r1 r2 r3 → R333 r0 r1 r2 r3) (hQ : ∀ r0 r1, Q1 r0 r1 → Q2 r0 r1 → Q3 r0 r1) : v_2_parameterValue_33b R331 Q1 x1 x2 x4 u → pv_2_parameterValue_33b R332 Q2 x1 x2 x4 u → v_2_parameterValue_33b R333 Q3 x1 x2 x4 u := (cj_v_7_isPair (fun _ _ => (br_cj (hQ _ _) (rd_cj fun _ => (br_cj (hQ _ _) (cj_v_7_left (fun _ _ => (br_cj (ov_cj (cj_v_7_right (fun _ _ => (hR33 _ _ _ _)))) (bd_cj (rd_cj fun _ => (hQ _ _)))))))))))
theorem mn_v_2_parameterValue_33b {Q1 Q2 : Int → iST → Prop} {R331 R332 : Int → Int → Int → iST → Prop} {x1 : Int} {x2 : Int} {x4 : Int} {u : iST} (hR33 : ∀ r0 r1 r2 r3, R331 r0 r1 r2 r3 → R332 r0 r1 r2 r3) (hQ : ∀ r0 r1, Q1 r0 r1 → Q2 r0 r1) : pv_2_parameterValue_33b R331 Q1 x1 x2 x4 u → pv_2_parameterValue_33b R332 Q2 x1 x2 x4 u := (mn_v_7_isPair (fun _ _ => (br_mn (hQ _ _) (rd_mn fun _ => (br_mn (hQ _ _) (mn_v_7_left (fun _ _ => (br_mn (ov_mn (mn_v_7_right (fun _ _ => (hR33 _ _ _ _)))) (bd_mn (rd_mn fun _ => (hQ _ _)))))))))))
theorem wp_v_2_parameterValue_33b {Q1 Q2 : Int → iST → Prop} {R331 R332 : Int → Int → Int → iST → Prop} {x1 : Int} {x2 : Int} {x4 : Int} {u : iST} (hR33 : ∀ r0 r1 r2 r3, R331 r0 r1 r2 r3 → R332 r0 r1 r2 r3) (hQ : ∀ r0 r1, Q1 r0 r1 → Q2 r0 r1) : v_2_parameterValue_33b R331 Q1 x1 x2 x4 u → pv_2_parameterValue_33b R332 Q2 x1 x2 x4 u := (wp_v_7_isPair (fun _ _ => (br_wp (hQ _ _) (rd_wp fun _ => (br_wp (hQ _ _) (wp_v_7_left (fun _ _ => (br_wp (ov_wp (wp_v_7_right (fun _ _ => (hR33 _ _ _ _)))) (bd_wp (rd_wp fun _ => (hQ _ _)))))))))))
def pv_2_parameterValue_33 (Q : Int → iST → Prop) (x1 : Int) (x2 : Int) (x4 : Int) (u : iST) : Prop := ∃ R33 : Int → Int → Int → iST → Prop, (∀ (x1 : Int) (x2 : Int) (x4 : Int) (u : iST), R33 x1 x2 x4 u → pv_2_parameterValue_33b R33 Q x1 x2 x4 u) ∧ R33 x1 x2 x4 u
theorem cj_v_2_parameterValue_33 {Q1 Q2 Q3 : Int → iST → Prop}  {x1 : Int} {x2 : Int} {x4 : Int} {u : iST} (hQ : ∀ r0 r1, Q1 r0 r1 → Q2 r0 r1 → Q3 r0 r1) : v_2_parameterValue_33 Q1 x1 x2 x4 u → pv_2_parameterValue_33 Q2 x1 x2 x4 u → v_2_parameterValue_33 Q3 x1 x2 x4 u := by
  intro a b R3 c3
  obtain ⟨R2, c2, b2⟩ := b
  exact a (fun r0 r1 r2 r3 => R2 r0 r1 r2 r3 → R3 r0 r1 r2 r3) (fun r0 r1 r2 r3 a b => c3 r0 r1 r2 r3 (cj_v_2_parameterValue_33b (fun r0 r1 r2 r3 a b => a b) hQ a (c2 r0 r1 r2 r3 b))) b2
theorem pv_2_parameterValue_33_i  {Q : Int → iST → Prop} {x1 : Int} {x2 : Int} {x4 : Int} {u : iST} (I : Int → Int → Int → iST → Prop) (s : ∀ (x1 : Int) (x2 : Int) (x4 : Int) (u : iST), I x1 x2 x4 u → pv_2_parameterValue_33b I Q x1 x2 x4 u) (h : I x1 x2 x4 u) : pv_2_parameterValue_33 Q x1 x2 x4 u := ⟨I, s, h⟩
theorem mn_v_2_parameterValue_33 {Q1 Q2 : Int → iST → Prop}  {x1 : Int} {x2 : Int} {x4 : Int} {u : iST} (hQ : ∀ r0 r1, Q1 r0 r1 → Q2 r0 r1) : pv_2_parameterValue_33 Q1 x1 x2 x4 u → pv_2_parameterValue_33 Q2 x1 x2 x4 u := fun ⟨R, s, h⟩ => ⟨R, fun r0 r1 r2 r3 a => mn_v_2_parameterValue_33b (fun r0 r1 r2 r3 a => a) hQ (s r0 r1 r2 r3 a), h⟩
theorem un_v_2_parameterValue_33  {Q : Int → iST → Prop} {x1 : Int} {x2 : Int} {x4 : Int} {u : iST} : pv_2_parameterValue_33 Q x1 x2 x4 u → pv_2_parameterValue_33b (fun x1 x2 x4 u => pv_2_parameterValue_33 Q x1 x2 x4 u) Q x1 x2 x4 u := fun ⟨R, s, h⟩ => mn_v_2_parameterValue_33b (fun r0 r1 r2 r3 a => ⟨R, s, a⟩) (fun _ _ h => h) (s _ _ _ _ h)
theorem fo_v_2_parameterValue_33  {Q : Int → iST → Prop} {x1 : Int} {x2 : Int} {x4 : Int} {u : iST} : pv_2_parameterValue_33b (fun x1 x2 x4 u => pv_2_parameterValue_33 Q x1 x2 x4 u) Q x1 x2 x4 u → pv_2_parameterValue_33 Q x1 x2 x4 u := fun h => ⟨fun x1 x2 x4 u => pv_2_parameterValue_33b (fun x1 x2 x4 u => pv_2_parameterValue_33 Q x1 x2 x4 u) Q x1 x2 x4 u, fun r0 r1 r2 r3 a => mn_v_2_parameterValue_33b (fun r0 r1 r2 r3 a => un_v_2_parameterValue_33 a) (fun _ _ h => h) a, h⟩
theorem wp_v_2_parameterValue_33 {Q1 Q2 : Int → iST → Prop}  {x1 : Int} {x2 : Int} {x4 : Int} {u : iST} (hQ : ∀ r0 r1, Q1 r0 r1 → Q2 r0 r1) : v_2_parameterValue_33 Q1 x1 x2 x4 u → pv_2_parameterValue_33 Q2 x1 x2 x4 u := fun a => a (fun x1 x2 x4 u => pv_2_parameterValue_33 Q2 x1 x2 x4 u) (fun x1 x2 x4 u b => fo_v_2_parameterValue_33 (wp_v_2_parameterValue_33b (fun r0 r1 r2 r3 a => a) hQ b))
def pv_2_parameterValue_29 (Q : Int → iST → Prop) (x1 : Int) (x2 : Int) (y0 : Int) (u : iST) : Prop :=
  pv_2_parameterValue_33 Q x1 x2 y0 u
theorem cj_v_2_parameterValue_29 {Q1 Q2 Q3 : Int → iST → Prop}  {x1 : Int} {x2 : Int} {y0 : Int} {u : iST} (hQ : ∀ r0 r1, Q1 r0 r1 → Q2 r0 r1 → Q3 r0 r1) : v_2_parameterValue_29 Q1 x1 x2 y0 u → pv_2_parameterValue_29 Q2 x1 x2 y0 u → v_2_parameterValue_29 Q3 x1 x2 y0 u := (cj_v_2_parameterValue_33  hQ)
theorem mn_v_2_parameterValue_29 {Q1 Q2 : Int → iST → Prop}  {x1 : Int} {x2 : Int} {y0 : Int} {u : iST} (hQ : ∀ r0 r1, Q1 r0 r1 → Q2 r0 r1) : pv_2_parameterValue_29 Q1 x1 x2 y0 u → pv_2_parameterValue_29 Q2 x1 x2 y0 u := (mn_v_2_parameterValue_33  hQ)
theorem wp_v_2_parameterValue_29 {Q1 Q2 : Int → iST → Prop}  {x1 : Int} {x2 : Int} {y0 : Int} {u : iST} (hQ : ∀ r0 r1, Q1 r0 r1 → Q2 r0 r1) : v_2_parameterValue_29 Q1 x1 x2 y0 u → pv_2_parameterValue_29 Q2 x1 x2 y0 u := (wp_v_2_parameterValue_33  hQ)
def pv_2_parameterValue (a0 : Int) (Q : Int → iST → Prop) (u : iST) : Prop :=
  rd (u.1 7) (fun v1 => 
  rd (u.1 6) (fun v2 => 
  br (v2 ≠ (-1)) (
    rd (u.1 6) (fun v3 => 
    bdp v3 40 (rd (u.2.1 1 v3) (fun v4 => 
    pv_2_parameterValue_29 Q a0 v1 v4 u)))) (
    pv_2_parameterValue_29 Q a0 v1 0 u)))
theorem cj_v_2_parameterValue {Q1 Q2 Q3 : Int → iST → Prop}  {a0 : Int} {u : iST} (hQ : ∀ r0 r1, Q1 r0 r1 → Q2 r0 r1 → Q3 r0 r1) : v_2_parameterValue a0 Q1 u → pv_2_parameterValue a0 Q2 u → v_2_parameterValue a0 Q3 u := (rd_cj fun _ => (rd_cj fun _ => (br_cj (rd_cj fun _ => (bd_cj (rd_cj fun _ => (cj_v_2_parameterValue_29  hQ)))) (cj_v_2_parameterValue_29  hQ))))
theorem mn_v_2_parameterValue {Q1 Q2 : Int → iST → Prop}  {a0 : Int} {u : iST} (hQ : ∀ r0 r1, Q1 r0 r1 → Q2 r0 r1) : pv_2_parameterValue a0 Q1 u → pv_2_parameterValue a0 Q2 u := (rd_mn fun _ => (rd_mn fun _ => (br_mn (rd_mn fun _ => (bd_mn (rd_mn fun _ => (mn_v_2_parameterValue_29  hQ)))) (mn_v_2_parameterValue_29  hQ))))
theorem wp_v_2_parameterValue {Q1 Q2 : Int → iST → Prop}  {a0 : Int} {u : iST} (hQ : ∀ r0 r1, Q1 r0 r1 → Q2 r0 r1) : v_2_parameterValue a0 Q1 u → pv_2_parameterValue a0 Q2 u := (rd_wp fun _ => (rd_wp fun _ => (br_wp (rd_wp fun _ => (bd_wp (rd_wp fun _ => (wp_v_2_parameterValue_29  hQ)))) (wp_v_2_parameterValue_29  hQ))))
def pv_7_valueOf (a0 : Int) (Q : Int → iST → Prop) (u : iST) : Prop :=
  br (a0 < 0) (
    Q a0 u) (
    rd (u.1 29) (fun v1 => 
    br (v1 ≤ a0) (
      Q a0 u) (
      bdp a0 160000 (rl (u.2.2 a0) (fun v2 => 
      br (v2 < 0) (
        bdp a0 160000 (rl (u.2.2 a0) (fun v3 => 
        rd (wl2i v3) (fun v4 => 
        rd (wand v4 2147483647) (fun v5 => 
        bdp v5 160000 (rl (u.2.2 v5) (fun v6 => 
        br (0 ≤ v6) (
          Q 0 u) (
          rl (wlushr v6 31) (fun v7 => 
          rd (wl2i v7) (fun v8 => 
          rd (wand v8 2147483647) (fun v9 => 
          Q v9 u))))))))))) (
        Q a0 u))))))
theorem cj_v_7_valueOf {Q1 Q2 Q3 : Int → iST → Prop}  {a0 : Int} {u : iST} (hQ : ∀ r0 r1, Q1 r0 r1 → Q2 r0 r1 → Q3 r0 r1) : v_7_valueOf a0 Q1 u → pv_7_valueOf a0 Q2 u → v_7_valueOf a0 Q3 u := (br_cj (hQ _ _) (rd_cj fun _ => (br_cj (hQ _ _) (bd_cj (rl_cj fun _ => (br_cj (bd_cj (rl_cj fun _ => (rd_cj fun _ => (rd_cj fun _ => (bd_cj (rl_cj fun _ => (br_cj (hQ _ _) (rl_cj fun _ => (rd_cj fun _ => (rd_cj fun _ => (hQ _ _))))))))))) (hQ _ _)))))))
theorem mn_v_7_valueOf {Q1 Q2 : Int → iST → Prop}  {a0 : Int} {u : iST} (hQ : ∀ r0 r1, Q1 r0 r1 → Q2 r0 r1) : pv_7_valueOf a0 Q1 u → pv_7_valueOf a0 Q2 u := (br_mn (hQ _ _) (rd_mn fun _ => (br_mn (hQ _ _) (bd_mn (rl_mn fun _ => (br_mn (bd_mn (rl_mn fun _ => (rd_mn fun _ => (rd_mn fun _ => (bd_mn (rl_mn fun _ => (br_mn (hQ _ _) (rl_mn fun _ => (rd_mn fun _ => (rd_mn fun _ => (hQ _ _))))))))))) (hQ _ _)))))))
theorem wp_v_7_valueOf {Q1 Q2 : Int → iST → Prop}  {a0 : Int} {u : iST} (hQ : ∀ r0 r1, Q1 r0 r1 → Q2 r0 r1) : v_7_valueOf a0 Q1 u → pv_7_valueOf a0 Q2 u := (br_wp (hQ _ _) (rd_wp fun _ => (br_wp (hQ _ _) (bd_wp (rl_wp fun _ => (br_wp (bd_wp (rl_wp fun _ => (rd_wp fun _ => (rd_wp fun _ => (bd_wp (rl_wp fun _ => (br_wp (hQ _ _) (rl_wp fun _ => (rd_wp fun _ => (rd_wp fun _ => (hQ _ _))))))))))) (hQ _ _)))))))
def pv_2_hold (a0 : Int) (Q : iST → Prop) (u : iST) : Prop :=
  rd (u.1 5) (fun v1 => 
  br (1803 ≤ v1) (
    Q u) (
    rd (u.1 5) (fun v2 => 
    bdp v2 1803 (sw (iA u 22 v2 a0) (fun u => 
    rd (u.1 5) (fun v3 => 
    ovp (v3 + 1) (
    sw (iI u 5 (v3 + 1)) (fun u => 
    Q u))))))))
theorem cj_v_2_hold {Q1 Q2 Q3 : iST → Prop}  {a0 : Int} {u : iST} (hQ : ∀ r0, Q1 r0 → Q2 r0 → Q3 r0) : v_2_hold a0 Q1 u → pv_2_hold a0 Q2 u → v_2_hold a0 Q3 u := (rd_cj fun _ => (br_cj (hQ _) (rd_cj fun _ => (bd_cj (sw_cj fun _ => (rd_cj fun _ => (ov_cj (sw_cj fun _ => (hQ _)))))))))
theorem mn_v_2_hold {Q1 Q2 : iST → Prop}  {a0 : Int} {u : iST} (hQ : ∀ r0, Q1 r0 → Q2 r0) : pv_2_hold a0 Q1 u → pv_2_hold a0 Q2 u := (rd_mn fun _ => (br_mn (hQ _) (rd_mn fun _ => (bd_mn (sw_mn fun _ => (rd_mn fun _ => (ov_mn (sw_mn fun _ => (hQ _)))))))))
theorem wp_v_2_hold {Q1 Q2 : iST → Prop}  {a0 : Int} {u : iST} (hQ : ∀ r0, Q1 r0 → Q2 r0) : v_2_hold a0 Q1 u → pv_2_hold a0 Q2 u := (rd_wp fun _ => (br_wp (hQ _) (rd_wp fun _ => (bd_wp (sw_wp fun _ => (rd_wp fun _ => (ov_wp (sw_wp fun _ => (hQ _)))))))))
def pv_2_isReady (a0 : Int) (Q : Int → iST → Prop) (u : iST) : Prop :=
  bdp a0 300 (rz (u.2.1 19 a0) (fun v1 => 
  br (v1 ≠ 0) (
    ztp 0 (Q 0 u)) (
    bdp a0 300 (rd (u.2.1 16 a0) (fun v2 => 
    br (16 < v2) (
      ztp 0 (Q 0 u)) (
      bdp a0 300 (rd (u.2.1 17 a0) (fun v3 => 
      pv_7_isPair v3 (fun v4 u => 
      br (v4 ≠ 0) (
        ztp 0 (Q 0 u)) (
        ztp 1 (Q 1 u))) u))))))))
theorem cj_v_2_isReady {Q1 Q2 Q3 : Int → iST → Prop}  {a0 : Int} {u : iST} (hQ : ∀ r0 r1, Q1 r0 r1 → Q2 r0 r1 → Q3 r0 r1) : v_2_isReady a0 Q1 u → pv_2_isReady a0 Q2 u → v_2_isReady a0 Q3 u := (bd_cj (rz_cj fun _ => (br_cj (zt_cj (hQ _ _)) (bd_cj (rd_cj fun _ => (br_cj (zt_cj (hQ _ _)) (bd_cj (rd_cj fun _ => (cj_v_7_isPair (fun _ _ => (br_cj (zt_cj (hQ _ _)) (zt_cj (hQ _ _)))))))))))))
theorem mn_v_2_isReady {Q1 Q2 : Int → iST → Prop}  {a0 : Int} {u : iST} (hQ : ∀ r0 r1, Q1 r0 r1 → Q2 r0 r1) : pv_2_isReady a0 Q1 u → pv_2_isReady a0 Q2 u := (bd_mn (rz_mn fun _ => (br_mn (zt_mn (hQ _ _)) (bd_mn (rd_mn fun _ => (br_mn (zt_mn (hQ _ _)) (bd_mn (rd_mn fun _ => (mn_v_7_isPair (fun _ _ => (br_mn (zt_mn (hQ _ _)) (zt_mn (hQ _ _)))))))))))))
theorem wp_v_2_isReady {Q1 Q2 : Int → iST → Prop}  {a0 : Int} {u : iST} (hQ : ∀ r0 r1, Q1 r0 r1 → Q2 r0 r1) : v_2_isReady a0 Q1 u → pv_2_isReady a0 Q2 u := (bd_wp (rz_wp fun _ => (br_wp (zt_wp (hQ _ _)) (bd_wp (rd_wp fun _ => (br_wp (zt_wp (hQ _ _)) (bd_wp (rd_wp fun _ => (wp_v_7_isPair (fun _ _ => (br_wp (zt_wp (hQ _ _)) (zt_wp (hQ _ _)))))))))))))
def pv_11_pairCell_12 (Q : Int → iST → Prop) (x1 : Int) (y0 : Int) (y1 : Int) (u : iST) : Prop :=
  rl (wlshl y1 31) (fun v2 => 
  rl (wlor y0 v2) (fun v3 => 
  br (0 ≤ x1) (
    rl (wlor v3 x1) (fun v5 => 
    Q v5 u)) (
    rl (wlor v3 0) (fun v7 => 
    Q v7 u))))
theorem cj_v_11_pairCell_12 {Q1 Q2 Q3 : Int → iST → Prop}  {x1 : Int} {y0 : Int} {y1 : Int} {u : iST} (hQ : ∀ r0 r1, Q1 r0 r1 → Q2 r0 r1 → Q3 r0 r1) : v_11_pairCell_12 Q1 x1 y0 y1 u → pv_11_pairCell_12 Q2 x1 y0 y1 u → v_11_pairCell_12 Q3 x1 y0 y1 u := (rl_cj fun _ => (rl_cj fun _ => (br_cj (rl_cj fun _ => (hQ _ _)) (rl_cj fun _ => (hQ _ _)))))
theorem mn_v_11_pairCell_12 {Q1 Q2 : Int → iST → Prop}  {x1 : Int} {y0 : Int} {y1 : Int} {u : iST} (hQ : ∀ r0 r1, Q1 r0 r1 → Q2 r0 r1) : pv_11_pairCell_12 Q1 x1 y0 y1 u → pv_11_pairCell_12 Q2 x1 y0 y1 u := (rl_mn fun _ => (rl_mn fun _ => (br_mn (rl_mn fun _ => (hQ _ _)) (rl_mn fun _ => (hQ _ _)))))
theorem wp_v_11_pairCell_12 {Q1 Q2 : Int → iST → Prop}  {x1 : Int} {y0 : Int} {y1 : Int} {u : iST} (hQ : ∀ r0 r1, Q1 r0 r1 → Q2 r0 r1) : v_11_pairCell_12 Q1 x1 y0 y1 u → pv_11_pairCell_12 Q2 x1 y0 y1 u := (rl_wp fun _ => (rl_wp fun _ => (br_wp (rl_wp fun _ => (hQ _ _)) (rl_wp fun _ => (hQ _ _)))))
def pv_11_pairCell (a0 : Int) (a1 : Int) (Q : Int → iST → Prop) (u : iST) : Prop :=
  br (0 ≤ a0) (
    pv_11_pairCell_12 Q a1 (-9223372036854775808) a0 u) (
    pv_11_pairCell_12 Q a1 (-9223372036854775808) 0 u)
theorem cj_v_11_pairCell {Q1 Q2 Q3 : Int → iST → Prop}  {a0 : Int} {a1 : Int} {u : iST} (hQ : ∀ r0 r1, Q1 r0 r1 → Q2 r0 r1 → Q3 r0 r1) : v_11_pairCell a0 a1 Q1 u → pv_11_pairCell a0 a1 Q2 u → v_11_pairCell a0 a1 Q3 u := (br_cj (cj_v_11_pairCell_12  hQ) (cj_v_11_pairCell_12  hQ))
theorem mn_v_11_pairCell {Q1 Q2 : Int → iST → Prop}  {a0 : Int} {a1 : Int} {u : iST} (hQ : ∀ r0 r1, Q1 r0 r1 → Q2 r0 r1) : pv_11_pairCell a0 a1 Q1 u → pv_11_pairCell a0 a1 Q2 u := (br_mn (mn_v_11_pairCell_12  hQ) (mn_v_11_pairCell_12  hQ))
theorem wp_v_11_pairCell {Q1 Q2 : Int → iST → Prop}  {a0 : Int} {a1 : Int} {u : iST} (hQ : ∀ r0 r1, Q1 r0 r1 → Q2 r0 r1) : v_11_pairCell a0 a1 Q1 u → pv_11_pairCell a0 a1 Q2 u := (br_wp (wp_v_11_pairCell_12  hQ) (wp_v_11_pairCell_12  hQ))
def pv_7_made_308 (Q : Int → iST → Prop) (x4 : Int) (y1 : Int) (y2 : Int) (y3 : Int) (u : iST) : Prop :=
  ovp (y2 + y3) (
  bdp y1 160000 (sw (iA u 29 y1 (y2 + y3)) (fun u => 
  Q x4 u)))
theorem cj_v_7_made_308 {Q1 Q2 Q3 : Int → iST → Prop}  {x4 : Int} {y1 : Int} {y2 : Int} {y3 : Int} {u : iST} (hQ : ∀ r0 r1, Q1 r0 r1 → Q2 r0 r1 → Q3 r0 r1) : v_7_made_308 Q1 x4 y1 y2 y3 u → pv_7_made_308 Q2 x4 y1 y2 y3 u → v_7_made_308 Q3 x4 y1 y2 y3 u := (ov_cj (bd_cj (sw_cj fun _ => (hQ _ _))))
theorem mn_v_7_made_308 {Q1 Q2 : Int → iST → Prop}  {x4 : Int} {y1 : Int} {y2 : Int} {y3 : Int} {u : iST} (hQ : ∀ r0 r1, Q1 r0 r1 → Q2 r0 r1) : pv_7_made_308 Q1 x4 y1 y2 y3 u → pv_7_made_308 Q2 x4 y1 y2 y3 u := (ov_mn (bd_mn (sw_mn fun _ => (hQ _ _))))
theorem wp_v_7_made_308 {Q1 Q2 : Int → iST → Prop}  {x4 : Int} {y1 : Int} {y2 : Int} {y3 : Int} {u : iST} (hQ : ∀ r0 r1, Q1 r0 r1 → Q2 r0 r1) : v_7_made_308 Q1 x4 y1 y2 y3 u → pv_7_made_308 Q2 x4 y1 y2 y3 u := (ov_wp (bd_wp (sw_wp fun _ => (hQ _ _))))
def pv_7_made_266 (Q : Int → iST → Prop) (x4 : Int) (x5 : Int) (x6 : Int) (y1 : Int) (y2 : Int) (u : iST) : Prop :=
  bdp y1 160000 (sw (iA u 28 y1 y2) (fun u => 
  bdp x5 160000 (rd (u.2.1 29 x5) (fun v19 => 
  bdp x6 160000 (rd (u.2.1 29 x6) (fun v20 => 
  br (v19 ≤ v20) (
    bdp x6 160000 (rd (u.2.1 29 x6) (fun v21 => 
    pv_7_made_308 Q x4 x4 1 v21 u))) (
    bdp x5 160000 (rd (u.2.1 29 x5) (fun v23 => 
    pv_7_made_308 Q x4 x4 1 v23 u)))))))))
theorem cj_v_7_made_266 {Q1 Q2 Q3 : Int → iST → Prop}  {x4 : Int} {x5 : Int} {x6 : Int} {y1 : Int} {y2 : Int} {u : iST} (hQ : ∀ r0 r1, Q1 r0 r1 → Q2 r0 r1 → Q3 r0 r1) : v_7_made_266 Q1 x4 x5 x6 y1 y2 u → pv_7_made_266 Q2 x4 x5 x6 y1 y2 u → v_7_made_266 Q3 x4 x5 x6 y1 y2 u := (bd_cj (sw_cj fun _ => (bd_cj (rd_cj fun _ => (bd_cj (rd_cj fun _ => (br_cj (bd_cj (rd_cj fun _ => (cj_v_7_made_308  hQ))) (bd_cj (rd_cj fun _ => (cj_v_7_made_308  hQ))))))))))
theorem mn_v_7_made_266 {Q1 Q2 : Int → iST → Prop}  {x4 : Int} {x5 : Int} {x6 : Int} {y1 : Int} {y2 : Int} {u : iST} (hQ : ∀ r0 r1, Q1 r0 r1 → Q2 r0 r1) : pv_7_made_266 Q1 x4 x5 x6 y1 y2 u → pv_7_made_266 Q2 x4 x5 x6 y1 y2 u := (bd_mn (sw_mn fun _ => (bd_mn (rd_mn fun _ => (bd_mn (rd_mn fun _ => (br_mn (bd_mn (rd_mn fun _ => (mn_v_7_made_308  hQ))) (bd_mn (rd_mn fun _ => (mn_v_7_made_308  hQ))))))))))
theorem wp_v_7_made_266 {Q1 Q2 : Int → iST → Prop}  {x4 : Int} {x5 : Int} {x6 : Int} {y1 : Int} {y2 : Int} {u : iST} (hQ : ∀ r0 r1, Q1 r0 r1 → Q2 r0 r1) : v_7_made_266 Q1 x4 x5 x6 y1 y2 u → pv_7_made_266 Q2 x4 x5 x6 y1 y2 u := (bd_wp (sw_wp fun _ => (bd_wp (rd_wp fun _ => (bd_wp (rd_wp fun _ => (br_wp (bd_wp (rd_wp fun _ => (wp_v_7_made_308  hQ))) (bd_wp (rd_wp fun _ => (wp_v_7_made_308  hQ))))))))))
def pv_7_made_235 (Q : Int → iST → Prop) (x4 : Int) (x5 : Int) (x6 : Int) (y0 : Int) (y1 : Int) (u : iST) : Prop :=
  ovp (y0 + y1) (
  bdp x6 160000 (rd (u.2.1 28 x6) (fun v17 => 
  ovp ((y0 + y1) + v17) (
  br (1000000 ≤ ((y0 + y1) + v17)) (
    pv_7_made_266 Q x4 x5 x6 x4 1000000 u) (
    pv_7_made_266 Q x4 x5 x6 x4 ((y0 + y1) + v17) u)))))
theorem cj_v_7_made_235 {Q1 Q2 Q3 : Int → iST → Prop}  {x4 : Int} {x5 : Int} {x6 : Int} {y0 : Int} {y1 : Int} {u : iST} (hQ : ∀ r0 r1, Q1 r0 r1 → Q2 r0 r1 → Q3 r0 r1) : v_7_made_235 Q1 x4 x5 x6 y0 y1 u → pv_7_made_235 Q2 x4 x5 x6 y0 y1 u → v_7_made_235 Q3 x4 x5 x6 y0 y1 u := (ov_cj (bd_cj (rd_cj fun _ => (ov_cj (br_cj (cj_v_7_made_266  hQ) (cj_v_7_made_266  hQ))))))
theorem mn_v_7_made_235 {Q1 Q2 : Int → iST → Prop}  {x4 : Int} {x5 : Int} {x6 : Int} {y0 : Int} {y1 : Int} {u : iST} (hQ : ∀ r0 r1, Q1 r0 r1 → Q2 r0 r1) : pv_7_made_235 Q1 x4 x5 x6 y0 y1 u → pv_7_made_235 Q2 x4 x5 x6 y0 y1 u := (ov_mn (bd_mn (rd_mn fun _ => (ov_mn (br_mn (mn_v_7_made_266  hQ) (mn_v_7_made_266  hQ))))))
theorem wp_v_7_made_235 {Q1 Q2 : Int → iST → Prop}  {x4 : Int} {x5 : Int} {x6 : Int} {y0 : Int} {y1 : Int} {u : iST} (hQ : ∀ r0 r1, Q1 r0 r1 → Q2 r0 r1) : v_7_made_235 Q1 x4 x5 x6 y0 y1 u → pv_7_made_235 Q2 x4 x5 x6 y0 y1 u := (ov_wp (bd_wp (rd_wp fun _ => (ov_wp (br_wp (wp_v_7_made_266  hQ) (wp_v_7_made_266  hQ))))))
def pv_7_made_212 (Q : Int → iST → Prop) (x4 : Int) (x5 : Int) (x6 : Int) (x7 : Int) (y0 : Int) (u : iST) : Prop :=
  br (y0 = 0) (
    pv_7_made_235 Q x4 x5 x6 1 0 u) (
    rd (wl2i x7) (fun v24 => 
    rd (wand v24 2147483647) (fun v25 => 
    bdp v25 160000 (rd (u.2.1 28 v25) (fun v26 => 
    pv_7_made_235 Q x4 x5 x6 1 v26 u)))))
theorem cj_v_7_made_212 {Q1 Q2 Q3 : Int → iST → Prop}  {x4 : Int} {x5 : Int} {x6 : Int} {x7 : Int} {y0 : Int} {u : iST} (hQ : ∀ r0 r1, Q1 r0 r1 → Q2 r0 r1 → Q3 r0 r1) : v_7_made_212 Q1 x4 x5 x6 x7 y0 u → pv_7_made_212 Q2 x4 x5 x6 x7 y0 u → v_7_made_212 Q3 x4 x5 x6 x7 y0 u := (br_cj (cj_v_7_made_235  hQ) (rd_cj fun _ => (rd_cj fun _ => (bd_cj (rd_cj fun _ => (cj_v_7_made_235  hQ))))))
theorem mn_v_7_made_212 {Q1 Q2 : Int → iST → Prop}  {x4 : Int} {x5 : Int} {x6 : Int} {x7 : Int} {y0 : Int} {u : iST} (hQ : ∀ r0 r1, Q1 r0 r1 → Q2 r0 r1) : pv_7_made_212 Q1 x4 x5 x6 x7 y0 u → pv_7_made_212 Q2 x4 x5 x6 x7 y0 u := (br_mn (mn_v_7_made_235  hQ) (rd_mn fun _ => (rd_mn fun _ => (bd_mn (rd_mn fun _ => (mn_v_7_made_235  hQ))))))
theorem wp_v_7_made_212 {Q1 Q2 : Int → iST → Prop}  {x4 : Int} {x5 : Int} {x6 : Int} {x7 : Int} {y0 : Int} {u : iST} (hQ : ∀ r0 r1, Q1 r0 r1 → Q2 r0 r1) : v_7_made_212 Q1 x4 x5 x6 x7 y0 u → pv_7_made_212 Q2 x4 x5 x6 x7 y0 u := (br_wp (wp_v_7_made_235  hQ) (rd_wp fun _ => (rd_wp fun _ => (bd_wp (rd_wp fun _ => (wp_v_7_made_235  hQ))))))
def pv_7_made_211 (Q : Int → iST → Prop) (x4 : Int) (x5 : Int) (x6 : Int) (x7 : Int) (u : iST) : Prop :=
  pv_7_made_212 Q x4 x5 x6 x7 0 u
theorem cj_v_7_made_211 {Q1 Q2 Q3 : Int → iST → Prop}  {x4 : Int} {x5 : Int} {x6 : Int} {x7 : Int} {u : iST} (hQ : ∀ r0 r1, Q1 r0 r1 → Q2 r0 r1 → Q3 r0 r1) : v_7_made_211 Q1 x4 x5 x6 x7 u → pv_7_made_211 Q2 x4 x5 x6 x7 u → v_7_made_211 Q3 x4 x5 x6 x7 u := (cj_v_7_made_212  hQ)
theorem mn_v_7_made_211 {Q1 Q2 : Int → iST → Prop}  {x4 : Int} {x5 : Int} {x6 : Int} {x7 : Int} {u : iST} (hQ : ∀ r0 r1, Q1 r0 r1 → Q2 r0 r1) : pv_7_made_211 Q1 x4 x5 x6 x7 u → pv_7_made_211 Q2 x4 x5 x6 x7 u := (mn_v_7_made_212  hQ)
theorem wp_v_7_made_211 {Q1 Q2 : Int → iST → Prop}  {x4 : Int} {x5 : Int} {x6 : Int} {x7 : Int} {u : iST} (hQ : ∀ r0 r1, Q1 r0 r1 → Q2 r0 r1) : v_7_made_211 Q1 x4 x5 x6 x7 u → pv_7_made_211 Q2 x4 x5 x6 x7 u := (wp_v_7_made_212  hQ)
def pv_7_made_75 (Q : Int → iST → Prop) (y1 : Int) (u : iST) : Prop :=
  sw (iI u 32 y1) (fun u => 
  Q 0 u)
theorem cj_v_7_made_75 {Q1 Q2 Q3 : Int → iST → Prop}  {y1 : Int} {u : iST} (hQ : ∀ r0 r1, Q1 r0 r1 → Q2 r0 r1 → Q3 r0 r1) : v_7_made_75 Q1 y1 u → pv_7_made_75 Q2 y1 u → v_7_made_75 Q3 y1 u := (sw_cj fun _ => (hQ _ _))
theorem mn_v_7_made_75 {Q1 Q2 : Int → iST → Prop}  {y1 : Int} {u : iST} (hQ : ∀ r0 r1, Q1 r0 r1 → Q2 r0 r1) : pv_7_made_75 Q1 y1 u → pv_7_made_75 Q2 y1 u := (sw_mn fun _ => (hQ _ _))
theorem wp_v_7_made_75 {Q1 Q2 : Int → iST → Prop}  {y1 : Int} {u : iST} (hQ : ∀ r0 r1, Q1 r0 r1 → Q2 r0 r1) : v_7_made_75 Q1 y1 u → pv_7_made_75 Q2 y1 u := (sw_wp fun _ => (hQ _ _))
def pv_7_made_18b (R18 : Int → Int → Int → iST → Prop) (Q : Int → iST → Prop) (x1 : Int) (x3 : Int) (x4 : Int) (u : iST) : Prop :=
  br (x4 < 0) (
    rd (u.1 29) (fun v5 => 
    br (v5 < 160000) (
      rd (u.1 29) (fun v6 => 
      rd (u.1 29) (fun v7 => 
      ovp (v7 + 1) (
      sw (iI u 29 (v7 + 1)) (fun u => 
      bdp v6 160000 (sw (iL u v6 x1) (fun u => 
      bdp x3 32768 (rd (u.2.1 30 x3) (fun v9 => 
      bdp v6 160000 (sw (iA u 27 v6 v9) (fun u => 
      bdp x3 32768 (sw (iA u 30 x3 v6) (fun u => 
      bdp v6 160000 (sw (iA u 28 v6 0) (fun u => 
      bdp v6 160000 (sw (iA u 29 v6 0) (fun u => 
      rl (wlushr x1 31) (fun v10 => 
      rd (wl2i v10) (fun v11 => 
      rd (wand v11 2147483647) (fun v12 => 
      rd (wl2i x1) (fun v13 => 
      rd (wand v13 2147483647) (fun v14 => 
      br (0 ≤ x1) (
        Q v6 u) (
        br (v6 ≤ v12) (
          Q v6 u) (
          br (v6 ≤ v14) (
            Q v6 u) (
            bdp v12 160000 (rl (u.2.2 v12) (fun v15 => 
            br (0 ≤ v15) (
              pv_7_made_211 Q v6 v12 v14 v15 u) (
              rl (wlushr v15 31) (fun v27 => 
              rd (wl2i v27) (fun v28 => 
              rd (wand v28 2147483647) (fun v29 => 
              br (v29 = 2) (
                pv_7_made_211 Q v6 v12 v14 v15 u) (
                pv_7_made_212 Q v6 v12 v14 v15 1 u)))))))))))))))))))))))))))))))) (
      rd (u.1 32) (fun v30 => 
      br (v30 ≠ 0) (
        rd (u.1 32) (fun v31 => 
        pv_7_made_75 Q v31 u)) (
        pv_7_made_75 Q 4 u))))) (
    bdp x4 160000 (rl (u.2.2 x4) (fun v32 => 
    br (v32 ≠ x1) (
      bdp x4 160000 (rd (u.2.1 27 x4) (fun v33 => 
      R18 x1 x3 v33 u))) (
      Q x4 u))))
theorem cj_v_7_made_18b {Q1 Q2 Q3 : Int → iST → Prop} {R181 R182 R183 : Int → Int → Int → iST → Prop} {x1 : Int} {x3 : Int} {x4 : Int} {u : iST} (hR18 : ∀ r0 r1 r2 r3, R181 r0 r1 r2 r3 → R182 r0 r1 r2 r3 → R183 r0 r1 r2 r3) (hQ : ∀ r0 r1, Q1 r0 r1 → Q2 r0 r1 → Q3 r0 r1) : v_7_made_18b R181 Q1 x1 x3 x4 u → pv_7_made_18b R182 Q2 x1 x3 x4 u → v_7_made_18b R183 Q3 x1 x3 x4 u := (br_cj (rd_cj fun _ => (br_cj (rd_cj fun _ => (rd_cj fun _ => (ov_cj (sw_cj fun _ => (bd_cj (sw_cj fun _ => (bd_cj (rd_cj fun _ => (bd_cj (sw_cj fun _ => (bd_cj (sw_cj fun _ => (bd_cj (sw_cj fun _ => (bd_cj (sw_cj fun _ => (rl_cj fun _ => (rd_cj fun _ => (rd_cj fun _ => (rd_cj fun _ => (rd_cj fun _ => (br_cj (hQ _ _) (br_cj (hQ _ _) (br_cj (hQ _ _) (bd_cj (rl_cj fun _ => (br_cj (cj_v_7_made_211  hQ) (rl_cj fun _ => (rd_cj fun _ => (rd_cj fun _ => (br_cj (cj_v_7_made_211  hQ) (cj_v_7_made_212  hQ)))))))))))))))))))))))))))))))) (rd_cj fun _ => (br_cj (rd_cj fun _ => (cj_v_7_made_75  hQ)) (cj_v_7_made_75  hQ))))) (bd_cj (rl_cj fun _ => (br_cj (bd_cj (rd_cj fun _ => (hR18 _ _ _ _))) (hQ _ _)))))
theorem mn_v_7_made_18b {Q1 Q2 : Int → iST → Prop} {R181 R182 : Int → Int → Int → iST → Prop} {x1 : Int} {x3 : Int} {x4 : Int} {u : iST} (hR18 : ∀ r0 r1 r2 r3, R181 r0 r1 r2 r3 → R182 r0 r1 r2 r3) (hQ : ∀ r0 r1, Q1 r0 r1 → Q2 r0 r1) : pv_7_made_18b R181 Q1 x1 x3 x4 u → pv_7_made_18b R182 Q2 x1 x3 x4 u := (br_mn (rd_mn fun _ => (br_mn (rd_mn fun _ => (rd_mn fun _ => (ov_mn (sw_mn fun _ => (bd_mn (sw_mn fun _ => (bd_mn (rd_mn fun _ => (bd_mn (sw_mn fun _ => (bd_mn (sw_mn fun _ => (bd_mn (sw_mn fun _ => (bd_mn (sw_mn fun _ => (rl_mn fun _ => (rd_mn fun _ => (rd_mn fun _ => (rd_mn fun _ => (rd_mn fun _ => (br_mn (hQ _ _) (br_mn (hQ _ _) (br_mn (hQ _ _) (bd_mn (rl_mn fun _ => (br_mn (mn_v_7_made_211  hQ) (rl_mn fun _ => (rd_mn fun _ => (rd_mn fun _ => (br_mn (mn_v_7_made_211  hQ) (mn_v_7_made_212  hQ)))))))))))))))))))))))))))))))) (rd_mn fun _ => (br_mn (rd_mn fun _ => (mn_v_7_made_75  hQ)) (mn_v_7_made_75  hQ))))) (bd_mn (rl_mn fun _ => (br_mn (bd_mn (rd_mn fun _ => (hR18 _ _ _ _))) (hQ _ _)))))
theorem wp_v_7_made_18b {Q1 Q2 : Int → iST → Prop} {R181 R182 : Int → Int → Int → iST → Prop} {x1 : Int} {x3 : Int} {x4 : Int} {u : iST} (hR18 : ∀ r0 r1 r2 r3, R181 r0 r1 r2 r3 → R182 r0 r1 r2 r3) (hQ : ∀ r0 r1, Q1 r0 r1 → Q2 r0 r1) : v_7_made_18b R181 Q1 x1 x3 x4 u → pv_7_made_18b R182 Q2 x1 x3 x4 u := (br_wp (rd_wp fun _ => (br_wp (rd_wp fun _ => (rd_wp fun _ => (ov_wp (sw_wp fun _ => (bd_wp (sw_wp fun _ => (bd_wp (rd_wp fun _ => (bd_wp (sw_wp fun _ => (bd_wp (sw_wp fun _ => (bd_wp (sw_wp fun _ => (bd_wp (sw_wp fun _ => (rl_wp fun _ => (rd_wp fun _ => (rd_wp fun _ => (rd_wp fun _ => (rd_wp fun _ => (br_wp (hQ _ _) (br_wp (hQ _ _) (br_wp (hQ _ _) (bd_wp (rl_wp fun _ => (br_wp (wp_v_7_made_211  hQ) (rl_wp fun _ => (rd_wp fun _ => (rd_wp fun _ => (br_wp (wp_v_7_made_211  hQ) (wp_v_7_made_212  hQ)))))))))))))))))))))))))))))))) (rd_wp fun _ => (br_wp (rd_wp fun _ => (wp_v_7_made_75  hQ)) (wp_v_7_made_75  hQ))))) (bd_wp (rl_wp fun _ => (br_wp (bd_wp (rd_wp fun _ => (hR18 _ _ _ _))) (hQ _ _)))))
def pv_7_made_18 (Q : Int → iST → Prop) (x1 : Int) (x3 : Int) (x4 : Int) (u : iST) : Prop := ∃ R18 : Int → Int → Int → iST → Prop, (∀ (x1 : Int) (x3 : Int) (x4 : Int) (u : iST), R18 x1 x3 x4 u → pv_7_made_18b R18 Q x1 x3 x4 u) ∧ R18 x1 x3 x4 u
theorem cj_v_7_made_18 {Q1 Q2 Q3 : Int → iST → Prop}  {x1 : Int} {x3 : Int} {x4 : Int} {u : iST} (hQ : ∀ r0 r1, Q1 r0 r1 → Q2 r0 r1 → Q3 r0 r1) : v_7_made_18 Q1 x1 x3 x4 u → pv_7_made_18 Q2 x1 x3 x4 u → v_7_made_18 Q3 x1 x3 x4 u := by
  intro a b R3 c3
  obtain ⟨R2, c2, b2⟩ := b
  exact a (fun r0 r1 r2 r3 => R2 r0 r1 r2 r3 → R3 r0 r1 r2 r3) (fun r0 r1 r2 r3 a b => c3 r0 r1 r2 r3 (cj_v_7_made_18b (fun r0 r1 r2 r3 a b => a b) hQ a (c2 r0 r1 r2 r3 b))) b2
theorem pv_7_made_18_i  {Q : Int → iST → Prop} {x1 : Int} {x3 : Int} {x4 : Int} {u : iST} (I : Int → Int → Int → iST → Prop) (s : ∀ (x1 : Int) (x3 : Int) (x4 : Int) (u : iST), I x1 x3 x4 u → pv_7_made_18b I Q x1 x3 x4 u) (h : I x1 x3 x4 u) : pv_7_made_18 Q x1 x3 x4 u := ⟨I, s, h⟩
theorem mn_v_7_made_18 {Q1 Q2 : Int → iST → Prop}  {x1 : Int} {x3 : Int} {x4 : Int} {u : iST} (hQ : ∀ r0 r1, Q1 r0 r1 → Q2 r0 r1) : pv_7_made_18 Q1 x1 x3 x4 u → pv_7_made_18 Q2 x1 x3 x4 u := fun ⟨R, s, h⟩ => ⟨R, fun r0 r1 r2 r3 a => mn_v_7_made_18b (fun r0 r1 r2 r3 a => a) hQ (s r0 r1 r2 r3 a), h⟩
theorem un_v_7_made_18  {Q : Int → iST → Prop} {x1 : Int} {x3 : Int} {x4 : Int} {u : iST} : pv_7_made_18 Q x1 x3 x4 u → pv_7_made_18b (fun x1 x3 x4 u => pv_7_made_18 Q x1 x3 x4 u) Q x1 x3 x4 u := fun ⟨R, s, h⟩ => mn_v_7_made_18b (fun r0 r1 r2 r3 a => ⟨R, s, a⟩) (fun _ _ h => h) (s _ _ _ _ h)
theorem fo_v_7_made_18  {Q : Int → iST → Prop} {x1 : Int} {x3 : Int} {x4 : Int} {u : iST} : pv_7_made_18b (fun x1 x3 x4 u => pv_7_made_18 Q x1 x3 x4 u) Q x1 x3 x4 u → pv_7_made_18 Q x1 x3 x4 u := fun h => ⟨fun x1 x3 x4 u => pv_7_made_18b (fun x1 x3 x4 u => pv_7_made_18 Q x1 x3 x4 u) Q x1 x3 x4 u, fun r0 r1 r2 r3 a => mn_v_7_made_18b (fun r0 r1 r2 r3 a => un_v_7_made_18 a) (fun _ _ h => h) a, h⟩
theorem wp_v_7_made_18 {Q1 Q2 : Int → iST → Prop}  {x1 : Int} {x3 : Int} {x4 : Int} {u : iST} (hQ : ∀ r0 r1, Q1 r0 r1 → Q2 r0 r1) : v_7_made_18 Q1 x1 x3 x4 u → pv_7_made_18 Q2 x1 x3 x4 u := fun a => a (fun x1 x3 x4 u => pv_7_made_18 Q2 x1 x3 x4 u) (fun x1 x3 x4 u b => fo_v_7_made_18 (wp_v_7_made_18b (fun r0 r1 r2 r3 a => a) hQ b))
def pv_7_made (a0 : Int) (Q : Int → iST → Prop) (u : iST) : Prop :=
  rl (wlmul a0 (-7046029254386353131)) (fun v1 => 
  rl (wlushr v1 49) (fun v2 => 
  rd (wl2i v2) (fun v3 => 
  bdp v3 32768 (rd (u.2.1 30 v3) (fun v4 => 
  pv_7_made_18 Q a0 v3 v4 u)))))
theorem cj_v_7_made {Q1 Q2 Q3 : Int → iST → Prop}  {a0 : Int} {u : iST} (hQ : ∀ r0 r1, Q1 r0 r1 → Q2 r0 r1 → Q3 r0 r1) : v_7_made a0 Q1 u → pv_7_made a0 Q2 u → v_7_made a0 Q3 u := (rl_cj fun _ => (rl_cj fun _ => (rd_cj fun _ => (bd_cj (rd_cj fun _ => (cj_v_7_made_18  hQ))))))
theorem mn_v_7_made {Q1 Q2 : Int → iST → Prop}  {a0 : Int} {u : iST} (hQ : ∀ r0 r1, Q1 r0 r1 → Q2 r0 r1) : pv_7_made a0 Q1 u → pv_7_made a0 Q2 u := (rl_mn fun _ => (rl_mn fun _ => (rd_mn fun _ => (bd_mn (rd_mn fun _ => (mn_v_7_made_18  hQ))))))
theorem wp_v_7_made {Q1 Q2 : Int → iST → Prop}  {a0 : Int} {u : iST} (hQ : ∀ r0 r1, Q1 r0 r1 → Q2 r0 r1) : v_7_made a0 Q1 u → pv_7_made a0 Q2 u := (rl_wp fun _ => (rl_wp fun _ => (rd_wp fun _ => (bd_wp (rd_wp fun _ => (wp_v_7_made_18  hQ))))))
def pv_7_numberOf (a0 : Int) (Q : Int → iST → Prop) (u : iST) : Prop :=
  br (a0 < 0) (
    Q 0 u) (
    rd (u.1 29) (fun v1 => 
    br (v1 ≤ a0) (
      Q 0 u) (
      bdp a0 160000 (rl (u.2.2 a0) (fun v2 => 
      rl (wlushr v2 62) (fun v3 => 
      br (v3 ≠ 0) (
        Q 0 u) (
        bdp a0 160000 (rl (u.2.2 a0) (fun v4 => 
        Q v4 u)))))))))
theorem cj_v_7_numberOf {Q1 Q2 Q3 : Int → iST → Prop}  {a0 : Int} {u : iST} (hQ : ∀ r0 r1, Q1 r0 r1 → Q2 r0 r1 → Q3 r0 r1) : v_7_numberOf a0 Q1 u → pv_7_numberOf a0 Q2 u → v_7_numberOf a0 Q3 u := (br_cj (hQ _ _) (rd_cj fun _ => (br_cj (hQ _ _) (bd_cj (rl_cj fun _ => (rl_cj fun _ => (br_cj (hQ _ _) (bd_cj (rl_cj fun _ => (hQ _ _))))))))))
theorem mn_v_7_numberOf {Q1 Q2 : Int → iST → Prop}  {a0 : Int} {u : iST} (hQ : ∀ r0 r1, Q1 r0 r1 → Q2 r0 r1) : pv_7_numberOf a0 Q1 u → pv_7_numberOf a0 Q2 u := (br_mn (hQ _ _) (rd_mn fun _ => (br_mn (hQ _ _) (bd_mn (rl_mn fun _ => (rl_mn fun _ => (br_mn (hQ _ _) (bd_mn (rl_mn fun _ => (hQ _ _))))))))))
theorem wp_v_7_numberOf {Q1 Q2 : Int → iST → Prop}  {a0 : Int} {u : iST} (hQ : ∀ r0 r1, Q1 r0 r1 → Q2 r0 r1) : v_7_numberOf a0 Q1 u → pv_7_numberOf a0 Q2 u := (br_wp (hQ _ _) (rd_wp fun _ => (br_wp (hQ _ _) (bd_wp (rl_wp fun _ => (rl_wp fun _ => (br_wp (hQ _ _) (bd_wp (rl_wp fun _ => (hQ _ _))))))))))
def pv_7_isNatural (a0 : Int) (Q : Int → iST → Prop) (u : iST) : Prop :=
  br (a0 < 0) (
    ztp 0 (Q 0 u)) (
    rd (u.1 29) (fun v1 => 
    br (v1 ≤ a0) (
      ztp 0 (Q 0 u)) (
      bdp a0 160000 (rl (u.2.2 a0) (fun v2 => 
      rl (wlushr v2 62) (fun v3 => 
      br (v3 ≠ 0) (
        ztp 0 (Q 0 u)) (
        ztp 1 (Q 1 u))))))))
theorem cj_v_7_isNatural {Q1 Q2 Q3 : Int → iST → Prop}  {a0 : Int} {u : iST} (hQ : ∀ r0 r1, Q1 r0 r1 → Q2 r0 r1 → Q3 r0 r1) : v_7_isNatural a0 Q1 u → pv_7_isNatural a0 Q2 u → v_7_isNatural a0 Q3 u := (br_cj (zt_cj (hQ _ _)) (rd_cj fun _ => (br_cj (zt_cj (hQ _ _)) (bd_cj (rl_cj fun _ => (rl_cj fun _ => (br_cj (zt_cj (hQ _ _)) (zt_cj (hQ _ _)))))))))
theorem mn_v_7_isNatural {Q1 Q2 : Int → iST → Prop}  {a0 : Int} {u : iST} (hQ : ∀ r0 r1, Q1 r0 r1 → Q2 r0 r1) : pv_7_isNatural a0 Q1 u → pv_7_isNatural a0 Q2 u := (br_mn (zt_mn (hQ _ _)) (rd_mn fun _ => (br_mn (zt_mn (hQ _ _)) (bd_mn (rl_mn fun _ => (rl_mn fun _ => (br_mn (zt_mn (hQ _ _)) (zt_mn (hQ _ _)))))))))
theorem wp_v_7_isNatural {Q1 Q2 : Int → iST → Prop}  {a0 : Int} {u : iST} (hQ : ∀ r0 r1, Q1 r0 r1 → Q2 r0 r1) : v_7_isNatural a0 Q1 u → pv_7_isNatural a0 Q2 u := (br_wp (zt_wp (hQ _ _)) (rd_wp fun _ => (br_wp (zt_wp (hQ _ _)) (bd_wp (rl_wp fun _ => (rl_wp fun _ => (br_wp (zt_wp (hQ _ _)) (zt_wp (hQ _ _)))))))))
def pv_7_isSymbol (a0 : Int) (Q : Int → iST → Prop) (u : iST) : Prop :=
  br (a0 < 0) (
    ztp 0 (Q 0 u)) (
    rd (u.1 29) (fun v1 => 
    br (v1 ≤ a0) (
      ztp 0 (Q 0 u)) (
      bdp a0 160000 (rl (u.2.2 a0) (fun v2 => 
      rl (wlushr v2 62) (fun v3 => 
      br (v3 ≠ 1) (
        ztp 0 (Q 0 u)) (
        ztp 1 (Q 1 u))))))))
theorem cj_v_7_isSymbol {Q1 Q2 Q3 : Int → iST → Prop}  {a0 : Int} {u : iST} (hQ : ∀ r0 r1, Q1 r0 r1 → Q2 r0 r1 → Q3 r0 r1) : v_7_isSymbol a0 Q1 u → pv_7_isSymbol a0 Q2 u → v_7_isSymbol a0 Q3 u := (br_cj (zt_cj (hQ _ _)) (rd_cj fun _ => (br_cj (zt_cj (hQ _ _)) (bd_cj (rl_cj fun _ => (rl_cj fun _ => (br_cj (zt_cj (hQ _ _)) (zt_cj (hQ _ _)))))))))
theorem mn_v_7_isSymbol {Q1 Q2 : Int → iST → Prop}  {a0 : Int} {u : iST} (hQ : ∀ r0 r1, Q1 r0 r1 → Q2 r0 r1) : pv_7_isSymbol a0 Q1 u → pv_7_isSymbol a0 Q2 u := (br_mn (zt_mn (hQ _ _)) (rd_mn fun _ => (br_mn (zt_mn (hQ _ _)) (bd_mn (rl_mn fun _ => (rl_mn fun _ => (br_mn (zt_mn (hQ _ _)) (zt_mn (hQ _ _)))))))))
theorem wp_v_7_isSymbol {Q1 Q2 : Int → iST → Prop}  {a0 : Int} {u : iST} (hQ : ∀ r0 r1, Q1 r0 r1 → Q2 r0 r1) : v_7_isSymbol a0 Q1 u → pv_7_isSymbol a0 Q2 u := (br_wp (zt_wp (hQ _ _)) (rd_wp fun _ => (br_wp (zt_wp (hQ _ _)) (bd_wp (rl_wp fun _ => (rl_wp fun _ => (br_wp (zt_wp (hQ _ _)) (zt_wp (hQ _ _)))))))))
def pv_7_heightOf (a0 : Int) (Q : Int → iST → Prop) (u : iST) : Prop :=
  br (a0 < 0) (
    Q 0 u) (
    rd (u.1 29) (fun v1 => 
    br (v1 ≤ a0) (
      Q 0 u) (
      bdp a0 160000 (rd (u.2.1 29 a0) (fun v2 => 
      Q v2 u)))))
theorem cj_v_7_heightOf {Q1 Q2 Q3 : Int → iST → Prop}  {a0 : Int} {u : iST} (hQ : ∀ r0 r1, Q1 r0 r1 → Q2 r0 r1 → Q3 r0 r1) : v_7_heightOf a0 Q1 u → pv_7_heightOf a0 Q2 u → v_7_heightOf a0 Q3 u := (br_cj (hQ _ _) (rd_cj fun _ => (br_cj (hQ _ _) (bd_cj (rd_cj fun _ => (hQ _ _))))))
theorem mn_v_7_heightOf {Q1 Q2 : Int → iST → Prop}  {a0 : Int} {u : iST} (hQ : ∀ r0 r1, Q1 r0 r1 → Q2 r0 r1) : pv_7_heightOf a0 Q1 u → pv_7_heightOf a0 Q2 u := (br_mn (hQ _ _) (rd_mn fun _ => (br_mn (hQ _ _) (bd_mn (rd_mn fun _ => (hQ _ _))))))
theorem wp_v_7_heightOf {Q1 Q2 : Int → iST → Prop}  {a0 : Int} {u : iST} (hQ : ∀ r0 r1, Q1 r0 r1 → Q2 r0 r1) : v_7_heightOf a0 Q1 u → pv_7_heightOf a0 Q2 u := (br_wp (hQ _ _) (rd_wp fun _ => (br_wp (hQ _ _) (bd_wp (rd_wp fun _ => (hQ _ _))))))
def pv_2_baseValue_195 (Q : Int → iST → Prop) (y1 : Int) (u : iST) : Prop :=
  pv_7_made y1 (fun v15 u => 
  Q v15 u) u
theorem cj_v_2_baseValue_195 {Q1 Q2 Q3 : Int → iST → Prop}  {y1 : Int} {u : iST} (hQ : ∀ r0 r1, Q1 r0 r1 → Q2 r0 r1 → Q3 r0 r1) : v_2_baseValue_195 Q1 y1 u → pv_2_baseValue_195 Q2 y1 u → v_2_baseValue_195 Q3 y1 u := (cj_v_7_made (fun _ _ => (hQ _ _)))
theorem mn_v_2_baseValue_195 {Q1 Q2 : Int → iST → Prop}  {y1 : Int} {u : iST} (hQ : ∀ r0 r1, Q1 r0 r1 → Q2 r0 r1) : pv_2_baseValue_195 Q1 y1 u → pv_2_baseValue_195 Q2 y1 u := (mn_v_7_made (fun _ _ => (hQ _ _)))
theorem wp_v_2_baseValue_195 {Q1 Q2 : Int → iST → Prop}  {y1 : Int} {u : iST} (hQ : ∀ r0 r1, Q1 r0 r1 → Q2 r0 r1) : v_2_baseValue_195 Q1 y1 u → pv_2_baseValue_195 Q2 y1 u := (wp_v_7_made (fun _ _ => (hQ _ _)))
def pv_2_baseValue (a0 : Int) (a1 : Int) (a2 : Int) (a3 : Int) (Q : Int → iST → Prop) (u : iST) : Prop :=
  br (a0 = 3) (
    br (a1 = 0) (
      Q a3 u) (
      Q a2 u)) (
  br (a0 = 4) (
    br (a1 ≠ a2) (
      Q 0 u) (
      Q 1 u)) (
  br (a0 = 5) (
    pv_11_pairCell a1 a2 (fun v3 u => 
    pv_7_made v3 (fun v4 u => 
    Q v4 u) u) u) (
  br (a0 = 6) (
    br (a1 = 0) (
      Q 1 u) (
      br (a2 ≠ 0) (
        Q 1 u) (
        Q 0 u))) (
  br (a0 = 7) (
    pv_7_numberOf a1 (fun v7 u => 
    pv_7_numberOf a2 (fun v8 u => 
    rl (wladd v7 v8) (fun v9 => 
    br (v9 ≤ 4611686018427387903) (
      pv_7_made v9 (fun v10 u => 
      Q v10 u) u) (
      Q (-1) u))) u) u) (
  br (a0 = 8) (
    pv_7_numberOf a1 (fun v12 u => 
    pv_7_numberOf a2 (fun v13 u => 
    rl (wlsub v12 v13) (fun v14 => 
    br (0 ≤ v14) (
      pv_2_baseValue_195 Q v14 u) (
      pv_2_baseValue_195 Q 0 u))) u) u) (
  br (a0 = 9) (
    pv_7_numberOf a1 (fun v17 u => 
    pv_7_numberOf a2 (fun v18 u => 
    br (v18 ≤ v17) (
      Q 0 u) (
      Q 1 u)) u) u) (
  br (a0 = 10) (
    pv_7_isPair a1 (fun v20 u => 
    br (v20 = 0) (
      Q 0 u) (
      Q 1 u)) u) (
  br (a0 = 11) (
    pv_7_left a1 (fun v22 u => 
    Q v22 u) u) (
  br (a0 = 12) (
    pv_7_right a1 (fun v24 u => 
    Q v24 u) u) (
  br (a0 = 13) (
    pv_7_isNatural a1 (fun v26 u => 
    br (v26 = 0) (
      Q 0 u) (
      Q 1 u)) u) (
  br (a0 = 14) (
    pv_7_isSymbol a1 (fun v28 u => 
    br (v28 = 0) (
      Q 0 u) (
      Q 1 u)) u) (
  br (a0 = 15) (
    pv_7_heightOf a1 (fun v30 u => 
    pv_7_made v30 (fun v32 u => 
    Q v32 u) u) u) (
  br (a1 ≠ 0) (
    Q 0 u) (
    Q 1 u))))))))))))))
theorem cj_v_2_baseValue {Q1 Q2 Q3 : Int → iST → Prop}  {a0 : Int} {a1 : Int} {a2 : Int} {a3 : Int} {u : iST} (hQ : ∀ r0 r1, Q1 r0 r1 → Q2 r0 r1 → Q3 r0 r1) : v_2_baseValue a0 a1 a2 a3 Q1 u → pv_2_baseValue a0 a1 a2 a3 Q2 u → v_2_baseValue a0 a1 a2 a3 Q3 u := (br_cj (br_cj (hQ _ _) (hQ _ _)) (br_cj (br_cj (hQ _ _) (hQ _ _)) (br_cj (cj_v_11_pairCell (fun _ _ => (cj_v_7_made (fun _ _ => (hQ _ _))))) (br_cj (br_cj (hQ _ _) (br_cj (hQ _ _) (hQ _ _))) (br_cj (cj_v_7_numberOf (fun _ _ => (cj_v_7_numberOf (fun _ _ => (rl_cj fun _ => (br_cj (cj_v_7_made (fun _ _ => (hQ _ _))) (hQ _ _))))))) (br_cj (cj_v_7_numberOf (fun _ _ => (cj_v_7_numberOf (fun _ _ => (rl_cj fun _ => (br_cj (cj_v_2_baseValue_195  hQ) (cj_v_2_baseValue_195  hQ))))))) (br_cj (cj_v_7_numberOf (fun _ _ => (cj_v_7_numberOf (fun _ _ => (br_cj (hQ _ _) (hQ _ _)))))) (br_cj (cj_v_7_isPair (fun _ _ => (br_cj (hQ _ _) (hQ _ _)))) (br_cj (cj_v_7_left (fun _ _ => (hQ _ _))) (br_cj (cj_v_7_right (fun _ _ => (hQ _ _))) (br_cj (cj_v_7_isNatural (fun _ _ => (br_cj (hQ _ _) (hQ _ _)))) (br_cj (cj_v_7_isSymbol (fun _ _ => (br_cj (hQ _ _) (hQ _ _)))) (br_cj (cj_v_7_heightOf (fun _ _ => (cj_v_7_made (fun _ _ => (hQ _ _))))) (br_cj (hQ _ _) (hQ _ _)))))))))))))))
theorem mn_v_2_baseValue {Q1 Q2 : Int → iST → Prop}  {a0 : Int} {a1 : Int} {a2 : Int} {a3 : Int} {u : iST} (hQ : ∀ r0 r1, Q1 r0 r1 → Q2 r0 r1) : pv_2_baseValue a0 a1 a2 a3 Q1 u → pv_2_baseValue a0 a1 a2 a3 Q2 u := (br_mn (br_mn (hQ _ _) (hQ _ _)) (br_mn (br_mn (hQ _ _) (hQ _ _)) (br_mn (mn_v_11_pairCell (fun _ _ => (mn_v_7_made (fun _ _ => (hQ _ _))))) (br_mn (br_mn (hQ _ _) (br_mn (hQ _ _) (hQ _ _))) (br_mn (mn_v_7_numberOf (fun _ _ => (mn_v_7_numberOf (fun _ _ => (rl_mn fun _ => (br_mn (mn_v_7_made (fun _ _ => (hQ _ _))) (hQ _ _))))))) (br_mn (mn_v_7_numberOf (fun _ _ => (mn_v_7_numberOf (fun _ _ => (rl_mn fun _ => (br_mn (mn_v_2_baseValue_195  hQ) (mn_v_2_baseValue_195  hQ))))))) (br_mn (mn_v_7_numberOf (fun _ _ => (mn_v_7_numberOf (fun _ _ => (br_mn (hQ _ _) (hQ _ _)))))) (br_mn (mn_v_7_isPair (fun _ _ => (br_mn (hQ _ _) (hQ _ _)))) (br_mn (mn_v_7_left (fun _ _ => (hQ _ _))) (br_mn (mn_v_7_right (fun _ _ => (hQ _ _))) (br_mn (mn_v_7_isNatural (fun _ _ => (br_mn (hQ _ _) (hQ _ _)))) (br_mn (mn_v_7_isSymbol (fun _ _ => (br_mn (hQ _ _) (hQ _ _)))) (br_mn (mn_v_7_heightOf (fun _ _ => (mn_v_7_made (fun _ _ => (hQ _ _))))) (br_mn (hQ _ _) (hQ _ _)))))))))))))))
theorem wp_v_2_baseValue {Q1 Q2 : Int → iST → Prop}  {a0 : Int} {a1 : Int} {a2 : Int} {a3 : Int} {u : iST} (hQ : ∀ r0 r1, Q1 r0 r1 → Q2 r0 r1) : v_2_baseValue a0 a1 a2 a3 Q1 u → pv_2_baseValue a0 a1 a2 a3 Q2 u := (br_wp (br_wp (hQ _ _) (hQ _ _)) (br_wp (br_wp (hQ _ _) (hQ _ _)) (br_wp (wp_v_11_pairCell (fun _ _ => (wp_v_7_made (fun _ _ => (hQ _ _))))) (br_wp (br_wp (hQ _ _) (br_wp (hQ _ _) (hQ _ _))) (br_wp (wp_v_7_numberOf (fun _ _ => (wp_v_7_numberOf (fun _ _ => (rl_wp fun _ => (br_wp (wp_v_7_made (fun _ _ => (hQ _ _))) (hQ _ _))))))) (br_wp (wp_v_7_numberOf (fun _ _ => (wp_v_7_numberOf (fun _ _ => (rl_wp fun _ => (br_wp (wp_v_2_baseValue_195  hQ) (wp_v_2_baseValue_195  hQ))))))) (br_wp (wp_v_7_numberOf (fun _ _ => (wp_v_7_numberOf (fun _ _ => (br_wp (hQ _ _) (hQ _ _)))))) (br_wp (wp_v_7_isPair (fun _ _ => (br_wp (hQ _ _) (hQ _ _)))) (br_wp (wp_v_7_left (fun _ _ => (hQ _ _))) (br_wp (wp_v_7_right (fun _ _ => (hQ _ _))) (br_wp (wp_v_7_isNatural (fun _ _ => (br_wp (hQ _ _) (hQ _ _)))) (br_wp (wp_v_7_isSymbol (fun _ _ => (br_wp (hQ _ _) (hQ _ _)))) (br_wp (wp_v_7_heightOf (fun _ _ => (wp_v_7_made (fun _ _ => (hQ _ _))))) (br_wp (hQ _ _) (hQ _ _)))))))))))))))
