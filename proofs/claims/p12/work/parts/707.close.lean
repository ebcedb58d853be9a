-- deps: 706
/-! the class: a call that is rebuilt is closed -/
theorem rb_close [DecidableEq Ob] {w d b e x6 f : Int} {Q : Int → iST → Prop} {v : iST} {L : List Ob} (hT : CT v) (h39 : v.2.1 39 d = b) (h37 : v.2.1 37 d = f) (hf : VN v f) (be : b ≤ e) (hL : L.length = (e - b).toNat) (hv : ∀ i, b ≤ i → i < e → VN v (v.2.1 40 i)) (hx : v.1 32 = 0 → lsC v (v.2.1 40) b (e - b).toNat = L) (hroom : v.1 32 = 0 → v.1 29 + (e - b) + 1 ≤ 160000)
    (ok : ∀ y, RbK d b v y → y.1 29 ≤ v.1 29 + (e - b) + 1 → VN y (y.2.1 40 b) → (v.1 32 = 0 → y.1 32 = 0 ∧ oc y (y.2.1 40 b) = .pr (oc v f) (Ob.ofList L) ∧ Ob.sz (.pr (oc v f) (Ob.ofList L)) ≤ 120) → rbC Q w d (b + 1) x6 y)
    (bad : ∀ y, CG f8B f8W v y → y.1 29 ≤ v.1 29 + (e - b) + 1 → (v.1 32 = 0 → 120 < Ob.sz (.pr (oc v f) (Ob.ofList L))) → (w ≠ 0 → y.1 32 ≠ 0) → (v.1 32 ≠ 0 → y.1 32 ≠ 0) → (w = 0 → v.1 32 = 0 → y.1 32 = 0) → Q (-1) y) : pv_10_rebuilt_156 (fun a b c d e u => pv_10_rebuilt_11 Q a b c d e u) (fun x2 x3 x4 x6 u => pv_10_rebuilt_128 (fun a b c d e u => pv_10_rebuilt_11 Q a b c d e u) Q x2 x3 x4 x6 u) Q w d e x6 0 v := by
  obtain ⟨z0, z1⟩ := VN.zero hT
  refine pv_10_rebuilt_156_i (fun x2 x3 x4 y6 x8 y => x2 = w ∧ x3 = d ∧ y6 = x6 ∧ b ≤ x4 ∧ x4 ≤ e ∧ CG f8M f8R v y ∧ y.1 29 ≤ v.1 29 + (e - x4) ∧ VN y x8 ∧ (v.1 32 = 0 → oc y x8 = Ob.ofList (L.drop (x4 - b).toNat))) ?_ ⟨rfl, rfl, rfl, be, Int.le_refl _, CG.rf hT, by omega, z0, fun _ => by rw [List.drop_eq_nil_of_le (by omega)]; exact z1⟩
  rintro x2 x3 x4 y6 x8 y ⟨e2, e3, e6, a0, a1, gy, hc, v8, e8⟩
  rw [e2, e3, e6]
  have r37 : y.2.1 37 = v.2.1 37 := gy.2.2.2 37 (by decide)
  have r39 : y.2.1 39 = v.2.1 39 := gy.2.2.2 39 (by decide)
  have r40 : y.2.1 40 = v.2.1 40 := gy.2.2.2 40 (by decide)
  have y32 : y.1 32 = v.1 32 := gy.2.2.1 32 (by decide)
  have alive : ∀ t : Int, t ≤ e - x4 → (v.1 32 = 0 → y.1 29 + t ≤ v.1 29 + (e - b)) → True := fun _ _ _ => trivial
  unfold pv_10_rebuilt_156b
  intro _ _ p ep _
  rw [ep, r39, h39]
  refine ⟨fun hle => ?_, fun hgt => ?_⟩
  · have hxb : x4 = b := by omega
    rw [hxb] at hc e8 ⊢
    rw [show (b - b).toNat = 0 by omega, List.drop_zero] at e8
    intro _ _ q eq _
    rw [r37, h37] at eq
    rw [eq]
    have hf2 := hf.up gy
    have hd : y.1 29 < 160000 ∨ y.1 32 ≠ 0 := by
      by_cases q : v.1 32 = 0
      · have := hroom q; exact Or.inl (by omega)
      · exact Or.inr (by rw [y32]; exact q)
    refine pc_pairG gy.1 hf2.2 v8.2 hd (fun k z gz vk ek hz => ?_)
    intro _ _ z1' ez1 _ _ t et _
    have et : t = k := by rw [et, ez1]; exact if_pos rfl
    rw [et]
    have kz : RbK d b v z1' := ((RbK_M gy).tr (RbK_M gz) (Int.le_refl _) (Int.le_refl _)).tr (by rw [ez1]; exact RbK_A gz.1 (by decide) (by decide) (fun z => by omega) (fun _ => Int.le_refl _)) (Int.le_refl _) (Int.le_refl _)
    have z29 : z1'.1 29 = z.1 29 := by rw [ez1]; rfl
    have z32 : z1'.1 32 = v.1 32 := by rw [ez1]; show z.1 32 = _; rw [gz.2.2.1 32 (by decide), y32]
    have vk' : VN z1' k := ⟨vk.1, by rw [z29]; exact vk.2⟩
    have ok' : v.1 32 = 0 → oc z1' k = .pr (oc v f) (Ob.ofList L) := fun q => by
      have hr := hroom q
      rw [oc_same (u := z) (v := z1') (by rw [ez1]; rfl), ek (by omega) hf2.1 v8.1, e8 q, gy.oc hT hf.1 hf.2]
    have z40 : z1'.2.1 40 b = k := by rw [ez1]; exact if_pos rfl
    refine pc_isTooBig kz.1.1 vk' (fun hsm => ⟨fun _ _ => ?_, fun z => absurd rfl z⟩) (fun hb z2 gz2 hz2 hw0 hw => ⟨(fun z => by cases z), fun _ => ?_⟩)
    · refine ok z1' kz (by omega) (by rw [z40]; exact vk') (fun q => ?_)
      have := ok' q
      rw [z40]
      exact ⟨by rw [z32]; exact q, this, by rw [← this]; exact hsm⟩
    · refine bad z2 (kz.1.tr gz2) (by omega) (fun q => by rw [← ok' q]; exact hb) hw (fun q => ?_) (fun w0 q => by rw [hw0 w0, z32]; exact q)
      · by_cases w0 : w = 0
        · rw [hw0 w0, z32]; exact q
        · exact hw w0
  · intro _ _ _ q eq _
    rw [r40] at eq
    have hvq := hv (x4 + -1) (by omega) (by omega)
    rw [← eq] at hvq
    have hd : y.1 29 < 160000 ∨ y.1 32 ≠ 0 := by
      by_cases q : v.1 32 = 0
      · have := hroom q; exact Or.inl (by omega)
      · exact Or.inr (by rw [y32]; exact q)
    refine pc_pairG gy.1 (hvq.up gy).2 v8.2 hd (fun k z gz vk ek hz => ⟨rfl, rfl, rfl, by omega, by omega, gy.tr gz, by omega, vk, fun q0 => ?_⟩)
    have hr := hroom q0
    rw [ek (by omega) hvq.1 v8.1, e8 q0, gy.oc hT hvq.1 hvq.2, drop_cons L (x4 + -1 - b).toNat Ob.nil (by omega), show (x4 - b).toNat = (x4 + -1 - b).toNat + 1 by omega]
    have hg : L.getD (x4 + -1 - b).toNat Ob.nil = oc v q := by
      have := lsC_get v (v.2.1 40) b (e - b).toNat (i := (x4 + -1 - b).toNat) (by omega)
      rw [hx q0] at this
      rw [List.getD_eq_getElem?_getD, this, show b + (((x4 + -1 - b).toNat : Nat) : Int) = x4 + -1 by omega, ← eq]
      rfl
    rw [hg]
    rfl
