set_option maxRecDepth 100000 in
set_option maxHeartbeats 16000000 in
theorem yCl_P {D : va_G} {ca : Nat → ClassId} {h0 : Nat} {u : kUH} {z : Nat → Nat → Nat} {H : Heap} (hn : u.2.1.2.2.2.2.2.2 = 44) (h : va_P D vwCl (kH ca h0 u) H) : va_P D vwCl (yCl ca (yAd h0 u z) (yU0 u.2.1.2)) H := by
  unfold kH at h
  have l11 := p_l h
  have r := p_r h
  have h3 := p_l r
  replace r := p_r r
  have h4 := p_l r
  replace r := p_r r
  have h8 := p_l r
  replace r := p_r r
  have h6 := p_l r
  replace r := p_r r
  have h2 := p_l r
  replace r := p_r r
  have h10 := p_l r
  replace r := p_r r
  have h9 := p_l r
  replace r := p_r r
  have h5 := p_l r
  replace r := p_r r
  have h0b := p_l r
  replace r := p_r r
  have hR := p_l (p_l r)
  clear r
  unfold kW3 at h3
  have l3 := p_l h3
  unfold kW4 at h4
  have l4 := p_l h4
  unfold kW8 at h8
  have l8 := p_l h8
  unfold kW6 at h6
  have l6 := p_l h6
  unfold kW2 at h2
  have l2 := p_l h2
  unfold kW10 at h10
  have l10 := p_l h10
  unfold kW9_2000 at h9
  have l9 := p_l h9
  unfold kW5 at h5
  have l5 := p_l h5
  unfold kW0 at h0b
  have l0 := p_l h0b
  have c4 := p_l (p_r h3)
  have m9 := p_l (p_r (p_r h3))
  have c3 := p_l (p_r h4)
  have c2 := p_l (p_r (p_r h4))
  have c1 := p_l (p_r (p_r (p_r h4)))
  have s2 := p_l (p_r h6)
  have s1 := p_l (p_r (p_r h6))
  have m8 := p_l (p_r (p_r (p_r h6)))
  have m7 := p_l (p_r (p_r (p_r (p_r h6))))
  have m6 := p_l (p_r h0b)
  have cl : ∀ i, i < 408 → va_at D vwCl (yAd h0 u z 4 i, .inr (1, [.ref (yAd h0 u z 5 i), .int (0), .int (0), .int (0)])) H ∧ va_at D vwCl (yAd h0 u z 5 i, .inl (ca 0, 30, .inl (fun _ => 0))) H := by
    intro i hi
    by_cases h1 : i < 120
    · rw [show yAd h0 u z 4 i = ((u.2.2.1 6).2.1 0) i from if_pos h1, show yAd h0 u z 5 i = ((u.2.2.1 6).2.1 5) i from if_pos h1]
      exact clP_at c1 i h1
    by_cases h2 : i < 130
    · rw [show yAd h0 u z 4 i = ((u.2.2.1 6).2.1 1) (i - 120) from (if_neg h1).trans (if_pos h2), show yAd h0 u z 5 i = ((u.2.2.1 6).2.1 4) (i - 120) from (if_neg h1).trans (if_pos h2)]
      exact clP_at c2 (i - 120) (by omega)
    by_cases h3 : i < 150
    · rw [show yAd h0 u z 4 i = ((u.2.2.1 6).2.1 2) (i - 130) from (if_neg h1).trans ((if_neg h2).trans (if_pos h3)), show yAd h0 u z 5 i = ((u.2.2.1 6).2.1 3) (i - 130) from (if_neg h1).trans ((if_neg h2).trans (if_pos h3))]
      exact clP_at c3 (i - 130) (by omega)
    by_cases h4 : i = 150
    · subst h4
      exact ⟨l4 4 _ rfl, l4 5 _ rfl⟩
    by_cases h5 : i = 151
    · subst h5
      exact ⟨l3 3 _ rfl, l3 4 _ rfl⟩
    · rw [show yAd h0 u z 4 i = ((u.2.2.1 7).2.1 0) (i - 152) from (if_neg h1).trans ((if_neg h2).trans ((if_neg h3).trans ((if_neg h4).trans (if_neg h5)))), show yAd h0 u z 5 i = ((u.2.2.1 7).2.1 1) (i - 152) from (if_neg h1).trans ((if_neg h2).trans ((if_neg h3).trans ((if_neg h4).trans (if_neg h5))))]
      exact clP_at c4 (i - 152) (by omega)
  have z0 : ∀ (n : Nat) (p : Prop) [Decidable p], jI (if p then 0 else 0) = 0 := fun n p _ => by split <;> rfl
  refine va_P.app ?_ (va_P.app ?_ (va_P.app ?_ (va_P.app ?_ (va_P.app ?_ (va_P.app ?_ (va_P.app ?_ (va_P.app ?_ (va_P.app ?_ (va_P.app ?_ p_nil)))))))))
  · refine p_cons ?_ (p_cons ?_ (p_cons ?_ (p_cons ?_ (p_cons ?_ (p_cons ?_ (p_cons ?_ (p_cons ?_ (p_cons ?_ (p_cons ?_ (p_cons ?_ (p_cons ?_ (p_cons ?_ (p_cons ?_ (p_cons ?_ (p_cons ?_ (p_cons ?_ (p_cons ?_ (p_cons ?_ (p_cons ?_ (p_cons ?_ (p_cons ?_ (p_cons ?_ (p_cons ?_ (p_cons ?_ (p_cons ?_ (p_cons ?_ (p_cons ?_ (p_cons ?_ (p_cons ?_ (p_cons ?_ (p_cons ?_ (p_cons ?_ (p_cons ?_ (p_cons ?_ (p_cons ?_ (p_cons ?_ (p_cons ?_ (p_cons ?_ (p_cons ?_ (p_cons ?_ (p_cons ?_ (p_cons ?_ (p_cons ?_ (p_cons ?_ (p_cons ?_ (p_cons ?_ (p_cons ?_ (p_cons ?_ (p_cons ?_ (p_cons ?_ (p_cons ?_ (p_cons ?_ (p_cons ?_ (p_cons ?_ (p_cons ?_ (p_cons ?_ (p_cons ?_ (p_cons ?_ (p_cons ?_ (p_cons ?_ (p_cons ?_ (p_cons ?_ (p_cons ?_ (p_cons ?_ (p_nil)))))))))))))))))))))))))))))))))))))))))))))))))))))))))))))))))
    · exact by have e := l0 0 _ rfl; rw [hn] at e; exact e
    · exact l2 0 _ rfl
    · exact l3 0 _ rfl
    · exact l4 0 _ rfl
    · exact l5 0 _ rfl
    · exact l6 0 _ rfl
    · exact by have e := l11 1 _ rfl; rw [hn] at e; exact e
    · exact l8 0 _ rfl
    · exact l10 0 _ rfl
    · exact l11 0 _ rfl
    · exact atI (l0 1 _ rfl) (fun j _ => rfl)
    · exact atI (l0 2 _ rfl) (fun j _ => rfl)
    · exact atI (l0 3 _ rfl) (fun j _ => rfl)
    · exact atI (l0 4 _ rfl) (fun j _ => rfl)
    · exact atI (l0 5 _ rfl) (fun j _ => rfl)
    · exact atI (l0 6 _ rfl) (fun j _ => rfl)
    · exact atI (l0 7 _ rfl) (fun j _ => rfl)
    · exact atI (l0 8 _ rfl) (fun j _ => rfl)
    · exact atI (l0 9 _ rfl) (fun j _ => rfl)
    · exact atI (l0 11 _ rfl) (fun j _ => rfl)
    · exact atI (l0 12 _ rfl) (fun j _ => rfl)
    · exact atI (l0 13 _ rfl) (fun j _ => rfl)
    · exact atI (l0 14 _ rfl) (fun j _ => rfl)
    · exact atI (l0 15 _ rfl) (fun j _ => rfl)
    · exact atI (l0 16 _ rfl) (fun j _ => rfl)
    · exact atI (l0 17 _ rfl) (fun j _ => rfl)
    · exact atI (l2 1 _ rfl) (fun j _ => rfl)
    · exact atI (l2 2 _ rfl) (fun j _ => rfl)
    · exact atI (l2 3 _ rfl) (fun j _ => rfl)
    · exact atI (l2 4 _ rfl) (fun j _ => rfl)
    · exact atI (l2 5 _ rfl) (fun j _ => rfl)
    · exact atI (l2 6 _ rfl) (fun j _ => rfl)
    · exact atI (l2 7 _ rfl) (fun j _ => rfl)
    · exact atI (l5 1 _ rfl) (fun j _ => rfl)
    · exact atI (l5 2 _ rfl) (fun j _ => rfl)
    · exact atI (l5 3 _ rfl) (fun j _ => rfl)
    · exact atI (l5 4 _ rfl) (fun j _ => rfl)
    · exact atI (hR 1 _ rfl) (fun j _ => by show jI ((_ : Int32).toInt) = _; rw [jI_of]; rfl)
    · exact atI (hR 2 _ rfl) (fun j _ => by show jI ((_ : Int32).toInt) = _; rw [jI_of]; rfl)
    · exact atI (hR 3 _ rfl) (fun j _ => by show jI ((_ : Int32).toInt) = _; rw [jI_of]; rfl)
    · exact atI (hR 4 _ rfl) (fun j _ => by show jI ((_ : Int32).toInt) = _; rw [jI_of]; rfl)
    · exact atI (l8 1 _ rfl) (fun j _ => rfl)
    · exact atI (l8 2 _ rfl) (fun j _ => rfl)
    · exact atI (l8 3 _ rfl) (fun j _ => rfl)
    · exact atI (l8 4 _ rfl) (fun j _ => rfl)
    · exact atI (l10 1 _ rfl) (fun j _ => rfl)
    · exact atI (l10 2 _ rfl) (fun j _ => rfl)
    · exact atI (l10 3 _ rfl) (fun j _ => rfl)
    · exact atI (l10 4 _ rfl) (fun j _ => rfl)
    · exact atI (l10 5 _ rfl) (fun j _ => rfl)
    · exact atI (l10 6 _ rfl) (fun j _ => rfl)
    · exact atI (l10 7 _ rfl) (fun j _ => rfl)
    · exact atI (l10 8 _ rfl) (fun j _ => rfl)
    · exact atI (l10 9 _ rfl) (fun j _ => rfl)
    · exact atI (l11 2 _ rfl) (fun j _ => rfl)
    · exact atI (l11 3 _ rfl) (fun j _ => rfl)
    · exact atL (hR 0 _ rfl) (fun j _ => by show jL ((_ : Int64).toInt) = _; rw [jL_of]; rfl)
    · exact atR (l0 10 _ rfl) (fun j _ => rfl)
    · exact atR (l6 1 _ rfl) (fun j _ => rfl)
    · exact atR (l6 2 _ rfl) (fun j _ => rfl)
    · exact atR (l3 1 _ rfl) (fun j _ => rfl)
    · exact atR (l4 1 _ rfl) (fun j hj => by show some (yAd h0 u z 4 j) = (if j < 120 then some (((u.2.2.1 6).2.1 0) j) else none); rw [if_pos hj, show yAd h0 u z 4 j = ((u.2.2.1 6).2.1 0) j from if_pos hj])
    · exact atR (l4 2 _ rfl) (fun j hj => by show some (yAd h0 u z 4 (120 + j)) = (if j < 10 then some (((u.2.2.1 6).2.1 1) j) else none); rw [if_pos hj, show yAd h0 u z 4 (120 + j) = ((u.2.2.1 6).2.1 1) (120 + j - 120) from (if_neg (by omega)).trans (if_pos (by omega)), Nat.add_sub_cancel_left])
    · exact atR (l4 3 _ rfl) (fun j hj => by show some (yAd h0 u z 4 (130 + j)) = (if j < 20 then some (((u.2.2.1 6).2.1 2) j) else none); rw [if_pos hj, show yAd h0 u z 4 (130 + j) = ((u.2.2.1 6).2.1 2) (130 + j - 130) from (if_neg (by omega)).trans ((if_neg (by omega)).trans (if_pos (by omega))), Nat.add_sub_cancel_left])
    · exact atR (l3 2 _ rfl) (fun j hj => by show some (yAd h0 u z 4 (if (0 : Int) ≤ (j : Int) ∧ (j : Int) < 256 then 152 + (j : Int) else 152).toNat) = (if j < 256 then some (((u.2.2.1 7).2.1 0) j) else none); rw [if_pos hj, if_pos (by omega), show (152 + (j : Int)).toNat = 152 + j from by omega, show yAd h0 u z 4 (152 + j) = ((u.2.2.1 7).2.1 0) (152 + j - 152) from (if_neg (by omega)).trans ((if_neg (by omega)).trans ((if_neg (by omega)).trans ((if_neg (by omega)).trans (if_neg (by omega))))), Nat.add_sub_cancel_left])
  · exact p_rng (fun i hi => (cl i hi).1)
  · exact p_rng (fun i hi => atI (cl i hi).2 (fun j _ => z0 0 (j < 30)))
  · exact p_rng (fun i hi => atI (mnR_at m6 hi) (fun j _ => z0 0 (j < 60)))
  · exact p_rng (fun i hi => atI (mnR_at m7 hi) (fun j _ => z0 0 (j < 17)))
  · exact p_rng (fun i hi => atI (mnR_at m8 hi) (fun j _ => z0 0 (j < 5)))
  · exact p_rng (fun i hi => atI (mnR_at m9 hi) (fun j _ => z0 0 (j < 4)))
  · refine p_rng (fun i hi => ?_)
    rcases (show i = 0 ∨ i = 1 ∨ i = 2 by omega) with rfl | rfl | rfl
    · exact l9 0 _ rfl
    · exact s1 0 _ rfl
    · exact s2 0 _ rfl
  · refine p_rng (fun i hi => ?_)
    rcases (show i = 0 ∨ i = 1 ∨ i = 2 by omega) with rfl | rfl | rfl
    · exact atI (l9 1 _ rfl) (fun j _ => z0 0 (j < 2000))
    · exact atI (s1 1 _ rfl) (fun j _ => z0 0 (j < 2000))
    · exact atI (s2 1 _ rfl) (fun j _ => z0 0 (j < 2000))
  · refine p_rng (fun i hi => ?_)
    rcases (show i = 0 ∨ i = 1 ∨ i = 2 by omega) with rfl | rfl | rfl
    · exact atI (l9 2 _ rfl) (fun j _ => z0 0 (j < 2000))
    · exact atI (s1 2 _ rfl) (fun j _ => z0 0 (j < 2000))
    · exact atI (s2 2 _ rfl) (fun j _ => z0 0 (j < 2000))
