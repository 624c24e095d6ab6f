/-! the canonical text of a canonical text is itself -/
theorem cf_lolo (c : Nat) : cf_lo (cf_lo c) = cf_lo c := by
  unfold cf_lo
  by_cases z : 65 ≤ c ∧ c ≤ 90
  · rw [if_pos z, if_neg (by omega)]
  · rw [if_neg z, if_neg z]
theorem cf_HClo2 {c : Nat} (h : cf_HC c) : cf_HC (cf_lo c) := by
  have q := cf_HCY.mp h
  unfold cf_HC
  omega
theorem cf_pvd {t : Nat → Nat} {f v : Nat} : ∀ m k, (∀ j, j < m + 1 → t (f + (k + j)) = (cf_dg m v).getD j 0) → cf_pv t f (k + (m + 1)) = cf_pv t f k * 10 ^ (m + 1) + v % 10 ^ (m + 1) := by
  intro m
  induction m with
  | zero =>
    intro k h
    have q := h 0 (by omega)
    have q' : t (f + k) = 48 + v % 10 := q
    show cf_pv t f k * 10 + (t (f + k) - 48) = _
    rw [q', Nat.pow_one]
    omega
  | succ m ih =>
    intro k h
    have q : t (f + k) = 48 + v / 10 ^ (m + 1) % 10 := h 0 (by omega)
    have r := ih (k + 1) (fun j hj => by
      have w := h (j + 1) (by omega)
      rw [show k + 1 + j = k + (j + 1) by omega, w]
      show (_ :: cf_dg m v).getD (j + 1) 0 = _
      rw [List.getD_cons_succ])
    rw [show k + (m + 1 + 1) = k + 1 + (m + 1) by omega, r]
    show (cf_pv t f k * 10 + (t (f + k) - 48)) * 10 ^ (m + 1) + v % 10 ^ (m + 1) = _
    rw [q, Nat.add_sub_cancel_left, Nat.pow_succ 10 (m + 1), Nat.mod_mul, Nat.add_mul, Nat.mul_assoc, Nat.mul_comm 10 (10 ^ (m + 1)), Nat.mul_comm (v / 10 ^ (m + 1) % 10) (10 ^ (m + 1))]
    omega
theorem cf_dyj {v : Nat} (hv : v ≤ 65535) : ∃ j, j ≤ 4 ∧ cf_dy 4 v = cf_dg j v ∧ v < 10 ^ (j + 1) := by
  have go : ∀ j, j ≤ 4 → (j = 0 ∨ 10 ^ j ≤ v) → v < 10 ^ (j + 1) → ∃ j, j ≤ 4 ∧ cf_dy 4 v = cf_dg j v ∧ v < 10 ^ (j + 1) := fun j h4 h0 h1 => ⟨j, h4, (cf_dyd 4 j v h4 h1).trans (cf_dyg j v h0), h1⟩
  by_cases a : v < 10
  · exact go 0 (by omega) (Or.inl rfl) a
  by_cases b : v < 100
  · exact go 1 (by omega) (Or.inr (by omega)) b
  by_cases c : v < 1000
  · exact go 2 (by omega) (Or.inr (by omega)) c
  by_cases d : v < 10000
  · exact go 3 (by omega) (Or.inr (by omega)) d
  · exact go 4 (by omega) (Or.inr (by omega)) (by omega)
theorem cf_dcH {t : Nat → Nat} {e n i x : Nat} {D : List Nat} (hi : i < e) (hn : e - i ≤ n) (ht : t i = x) (hx : x ≠ 37) (h : cf_dc t e n i = some D) : ∃ D', D = x :: D' := by
  cases n with
  | zero => omega
  | succ n =>
    rw [cf_dcC hi (by omega)] at h
    obtain ⟨D', _, rfl⟩ := Option.map_eq_some_iff.mp h
    exact ⟨D', by rw [ht]⟩
theorem cf_paM {D : List Nat} {x : Nat} (hx : x ≠ 47) (h : ∀ c, c ∈ D → c ≠ x) : ∀ c, c ∈ cf_pa D → c ≠ x := by
  intro c hc
  rcases Nat.eq_zero_or_pos D.length with z | z
  · have e : D = [] := List.eq_nil_of_length_eq_zero z
    subst e
    rw [List.mem_singleton.mp hc]
    exact fun w => hx w.symm
  · have e : cf_pa D = cf_fl (cf_dD D) (cf_gs D) := cf_ptN (cf_gsN z)
    rw [e] at hc
    unfold cf_fl at hc
    obtain ⟨p, hp, hq⟩ := List.mem_flatMap.mp hc
    rcases List.mem_cons.mp hq with w | w
    · rw [w]
      exact fun w => hx w.symm
    · obtain ⟨j, hj, ej⟩ := cf_sbM w
      have b := ((cf_gsG D).2 p hp).1
      rw [ej]
      exact h _ (cf_gdm (l := D) (j := p.1 + j) (by omega))
theorem cf_idem {t t' : Nat → Nat} {L c he p pE qE : Nat} {po D1 D2 : List Nat} (ht : ∀ j, t j ≤ 126) (hL : L ≤ 48) (ps : cf_PS t L c he p pE qE po D1 D2) (ht' : ∀ j, j < (cf_out t he po D1 D2).length → t' j = (cf_out t he po D1 D2).getD j 0) :
    cf_PS t' (cf_out t he po D1 D2).length c he (he + po.length) (he + po.length + (cf_pa D1).length) (cf_out t he po D1 D2).length po (cf_pa D1) D2 ∧ cf_out t' he po (cf_pa D1) D2 = cf_out t he po D1 D2 := by
  have bo := cf_outB ht hL ps
  have ol := cf_outL (t := t) (he := he) (po := po) (D1 := D1) (D2 := D2)
  obtain ⟨hc, hE, hH, hPO, hpE, hD1, hqE, hD2⟩ := ps
  have pol := cf_POl hE.2.1 hPO
  obtain ⟨r, hr⟩ := cf_ptH (cf_dD D1) (cf_gs D1)
  have hr' : cf_pa D1 = 47 :: r := hr
  have pal : (cf_pa D1).length = r.length + 1 := by rw [hr', List.length_cons]
  have n1 := cf_dcI _ _ _ hD1
  have n2 := cf_dcI _ _ _ hD2
  have pn := cf_paN n1 (cf_D47 ht hE hPO hpE hD1)
  have g1 : ∀ j, j < he → t' j = cf_lo (t j) := by
    intro j hj
    rw [ht' j (by omega)]
    unfold cf_out
    rw [cf_gdl (by rw [List.length_append, List.length_append, cf_sbL]; omega), cf_gdl (by rw [List.length_append, cf_sbL]; omega), cf_gdl (by rw [cf_sbL]; omega), cf_sbG _ _ _ _ hj, Nat.zero_add]
  have g2 : ∀ j, j < po.length → t' (he + j) = po.getD j 0 := by
    intro j hj
    rw [ht' (he + j) (by omega)]
    unfold cf_out
    rw [cf_gdl (by rw [List.length_append, List.length_append, cf_sbL]; omega), cf_gdl (by rw [List.length_append, cf_sbL]; omega), cf_gdr (by rw [cf_sbL]; omega), cf_sbL, Nat.add_sub_cancel_left]
  have g3 : ∀ j, j < (cf_pa D1).length → t' (he + po.length + j) = (cf_pa D1).getD j 0 := by
    intro j hj
    rw [ht' (he + po.length + j) (by omega)]
    unfold cf_out
    rw [cf_gdl (by rw [List.length_append, List.length_append, cf_sbL]; omega), cf_gdr (by rw [List.length_append, cf_sbL]; omega), List.length_append, cf_sbL, Nat.add_sub_cancel_left]
  have g4 : ∀ j, j < D2.length → t' (he + po.length + (cf_pa D1).length + j) = D2.getD j 0 := by
    intro j hj
    rw [ht' (he + po.length + (cf_pa D1).length + j) (by omega)]
    unfold cf_out
    rw [cf_gdr (by rw [List.length_append, List.length_append, cf_sbL]; omega), List.length_append, List.length_append, cf_sbL, Nat.add_sub_cancel_left]
  have h47 : t' (he + po.length) = 47 := by
    have q := g3 0 (by omega)
    rw [Nat.add_zero, hr'] at q
    exact q
  obtain ⟨q0, q1, q2, q3, q4, q5, q6, q7, q8, q9⟩ := hc
  have c3 : c + 3 ≤ he := hE.1
  have hc' : cf_Sch t' (cf_out t he po D1 D2).length c := by
    refine ⟨q0, by omega, ?_, ?_, ?_, ?_, fun w => ?_, ?_, ?_, ?_⟩
    · rw [g1 0 (by omega), cf_lolo]; exact q2
    · rw [g1 1 (by omega), cf_lolo]; exact q3
    · rw [g1 2 (by omega), cf_lolo]; exact q4
    · rw [g1 3 (by omega), cf_lolo]; exact q5
    · rw [g1 4 (by omega), cf_lolo]; exact q6 w
    · rw [g1 c (by omega)]; exact cf_lo58.mpr q7
    · rw [g1 (c + 1) (by omega)]; exact cf_lo47.mpr q8
    · rw [g1 (c + 2) (by omega)]; exact cf_lo47.mpr q9
  have hHC : ∀ j, c + 3 ≤ j → j < he → cf_HC (t' j) := by
    intro j h1 h2
    rw [g1 j h2]
    exact cf_HClo2 (hH.2.2 j h1 h2)
  have hno4 : ∀ j, c + 3 ≤ j → j < he → ¬ cf_rk 4 (t' j) := by
    intro j h1 h2 w
    have a := hHC j h1 h2
    unfold cf_HC at a
    unfold cf_rk at w
    omega
  have hPO' : (t' he = 58 ∨ t' he = 47) ∧ cf_PO t' (cf_out t he po D1 D2).length c he (he + po.length) po := by
    rcases hPO with ⟨a, b, d⟩ | ⟨a, b, d⟩
    · subst d
      have e0 : he + ([] : List Nat).length = he := rfl
      rw [e0] at h47 ⊢
      exact ⟨Or.inr h47, Or.inl ⟨fun w => by omega, rfl, rfl⟩⟩
    · by_cases dv : cf_pv t (he + 1) (p - (he + 1)) = cf_dp c
      · have e1 : po = [] := by rw [d]; unfold cf_po; rw [if_pos dv]
        subst e1
        have e0 : he + ([] : List Nat).length = he := rfl
        rw [e0] at h47 ⊢
        exact ⟨Or.inr h47, Or.inl ⟨fun w => by omega, rfl, rfl⟩⟩
      · have hv := b.2.2.2.2
        have e1 : po = 58 :: cf_dy 4 (cf_pv t (he + 1) (p - (he + 1))) := by rw [d]; unfold cf_po; rw [if_neg dv]
        generalize cf_pv t (he + 1) (p - (he + 1)) = v at *
        obtain ⟨j, hj4, ej, hvj⟩ := cf_dyj hv
        have dl := cf_dgL j v
        have pl : po.length = j + 2 := by rw [e1, List.length_cons, ej, dl]
        have z58 : t' he = 58 := by
          have q := g2 0 (by omega)
          rw [Nat.add_zero, e1] at q
          exact q
        have dig : ∀ k, k < j + 1 → t' (he + 1 + k) = (cf_dg j v).getD k 0 := by
          intro k hk
          have q := g2 (k + 1) (by omega)
          rw [e1, List.getD_cons_succ, ej] at q
          rw [show he + 1 + k = he + (k + 1) by omega]
          exact q
        have digs : ∀ k, he + 1 ≤ k → k < he + po.length → 48 ≤ t' k ∧ t' k ≤ 57 := by
          intro k h1 h2
          have q := dig (k - (he + 1)) (by omega)
          rw [show he + 1 + (k - (he + 1)) = k by omega] at q
          rw [q]
          exact cf_dyM 4 v _ (by rw [ej]; exact cf_gdm (by omega))
        have val : cf_pv t' (he + 1) (he + po.length - (he + 1)) = v := by
          have q := cf_pvd (t := t') (f := he + 1) (v := v) j 0 (fun k hk => by rw [Nat.zero_add]; exact dig k hk)
          rw [show he + po.length - (he + 1) = 0 + (j + 1) by omega, q, Nat.mod_eq_of_lt hvj]
          show 0 * _ + v = v
          omega
        refine ⟨Or.inl z58, Or.inr ⟨⟨by omega, z58⟩, ⟨⟨by omega, by omega, fun k h1 h2 w => ?_, fun _ => ?_⟩, by omega, by omega, digs, by rw [val]; exact hv⟩, ?_⟩⟩
        · have := digs k h1 h2
          unfold cf_rk at w
          omega
        · exact Or.inr (Or.inr (Or.inl ⟨by omega, h47⟩))
        · rw [val, e1]
          unfold cf_po
          rw [if_neg dv]
  have hE' : cf_IE 4 t' (cf_out t he po D1 D2).length (c + 3) he := by
    refine ⟨c3, by omega, hno4, fun _ => ?_⟩
    rcases hPO'.1 with w | w
    · exact Or.inr (Or.inr (Or.inr ⟨by omega, w⟩))
    · exact Or.inr (Or.inr (Or.inl ⟨by omega, w⟩))
  have no63 : ∀ x, x ∈ cf_pa D1 → x ≠ 63 := cf_paM (by decide) (cf_dcX63 (Or.inl rfl) _ _ _ (fun j h1 h2 w => hpE.2.2.1 j h1 h2 (Or.inr (Or.inl ⟨by omega, w⟩))) hD1)
  have no35 : ∀ x, x ∈ cf_pa D1 → x ≠ 35 := cf_paM (by decide) (cf_dcX63 (Or.inr rfl) _ _ _ (fun j h1 h2 w => hpE.2.2.1 j h1 h2 (Or.inl w)) hD1)
  have no35' : ∀ x, x ∈ D2 → x ≠ 35 := cf_dcX63 (Or.inr rfl) _ _ _ (fun j h1 h2 w => hqE.2.2.1 j h1 h2 (Or.inl w)) hD2
  have d2l := (cf_dcF ht _ _ _ (Nat.le_refl _) hD2).1
  have hpE' : cf_IE 2 t' (cf_out t he po D1 D2).length (he + po.length) (he + po.length + (cf_pa D1).length) := by
    refine ⟨by omega, by omega, fun j h1 h2 w => ?_, fun w => ?_⟩
    · have q := g3 (j - (he + po.length)) (by omega)
      rw [show he + po.length + (j - (he + po.length)) = j by omega] at q
      have m := cf_gdm (l := cf_pa D1) (j := j - (he + po.length)) (by omega)
      rw [← q] at m
      have a := no63 _ m
      have b := no35 _ m
      unfold cf_rk at w
      omega
    · have l0 : 0 < D2.length := by omega
      have pq : pE < qE := by omega
      have t63 : t pE = 63 := by
        have a := hpE.2.2.2 (by have := hqE.2.1; omega)
        have b := hqE.2.2.1 pE (Nat.le_refl _) pq
        unfold cf_rk at a b
        omega
      obtain ⟨D', e⟩ := cf_dcH pq (Nat.le_refl _) t63 (by decide) hD2
      have q := g4 0 l0
      rw [Nat.add_zero, e] at q
      exact Or.inr (Or.inl ⟨by omega, q⟩)
  have hqE' : cf_IE 1 t' (cf_out t he po D1 D2).length (he + po.length + (cf_pa D1).length) (cf_out t he po D1 D2).length := by
    refine ⟨by omega, Nat.le_refl _, fun j h1 h2 w => ?_, fun w => by omega⟩
    have q := g4 (j - (he + po.length + (cf_pa D1).length)) (by omega)
    rw [show he + po.length + (cf_pa D1).length + (j - (he + po.length + (cf_pa D1).length)) = j by omega] at q
    have m := cf_gdm (l := D2) (j := j - (he + po.length + (cf_pa D1).length)) (by omega)
    rw [← q] at m
    have a := no35' _ m
    unfold cf_rk at w
    omega
  refine ⟨⟨hc', hE', ⟨hH.1, hH.2.1, hHC⟩, hPO'.2, hpE', ?_, hqE', ?_⟩, ?_⟩
  · obtain ⟨m, q⟩ := pn.1
    exact cf_Nmd m (cf_pa D1) (he + po.length) _ q g3 (by omega)
  · have q := cf_Nmd _ D2 (he + po.length + (cf_pa D1).length) (D2.length) n2 g4 (Nat.le_refl _)
    rw [show he + po.length + (cf_pa D1).length + D2.length = (cf_out t he po D1 D2).length by omega] at q
    rw [show (cf_out t he po D1 D2).length - (he + po.length + (cf_pa D1).length) = D2.length by omega]
    exact q
  · unfold cf_out
    rw [pn.2, cf_sbE (f := fun j => cf_lo (t' j)) (g := fun j => cf_lo (t j)) (s := 0) (r := 0) he (fun j hj => by
      show cf_lo (t' (0 + j)) = cf_lo (t (0 + j))
      rw [Nat.zero_add, g1 j hj, cf_lolo])]
