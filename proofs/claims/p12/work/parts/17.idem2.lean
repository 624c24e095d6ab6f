/-! dot segments once more over their own answer -/
def cf_Dt (dd : Nat → Nat) (s n : Nat) : Prop := (n = 1 ∧ dd s = 46) ∨ (n = 2 ∧ dd s = 46 ∧ dd (s + 1) = 46)
def cf_ND (dd : Nat → Nat) (N : Nat) : Prop := ∀ s i, 1 ≤ s → s ≤ i → i ≤ N → dd (s - 1) = 47 → (i = N ∨ dd i = 47) → (∀ j, s ≤ j → j < i → dd j ≠ 47) → ¬ cf_Dt dd s (i - s)
theorem cf_stD {dd : Nat → Nat} {n i s : Nat} {g : List (Nat × Nat)} (h : ¬ cf_Dt dd s (i - s)) : cf_st dd n i s g = g ++ [(s, i - s)] := by
  unfold cf_st
  rw [if_neg (fun w => h (Or.inl w)), if_neg (fun w => h (Or.inr w))]
theorem cf_sgT {dd : Nat → Nat} {N : Nat} (hnd : cf_ND dd N) : ∀ d i s g, i + d = N + 1 → 1 ≤ s → s ≤ i → (i ≤ N → dd (s - 1) = 47) → (i = N + 1 → s = N + 1) → (∀ j, s ≤ j → j < i → dd j ≠ 47) → cf_fl dd g = cf_sb dd 0 (s - 1) → cf_fl dd (cf_sg dd N d i s g) = cf_sb dd 0 N := by
  intro d
  induction d with
  | zero =>
    intro i s g hd hs hsi h47 hend hj hfl
    have e := hend (by omega)
    subst e
    exact hfl
  | succ d ih =>
    intro i s g hd hs hsi h47 hend hj hfl
    by_cases c : i < N ∧ dd i ≠ 47
    · rw [cf_sgC c]
      refine ih (i + 1) s g (by omega) hs (by omega) (fun _ => h47 (by omega)) (fun w => by omega) (fun j h1 h2 => ?_) hfl
      rcases Nat.lt_or_ge j i with z | z
      · exact hj j h1 z
      · have e : j = i := by omega
        rw [e]
        exact c.2
    · rw [cf_sgS c]
      have h7 := h47 (by omega)
      have hi : i = N ∨ dd i = 47 := by
        by_cases z : i < N
        · exact Or.inr (Classical.not_not.mp (fun w => c ⟨z, w⟩))
        · exact Or.inl (by omega)
      rw [cf_stD (hnd s i hs hsi (by omega) h7 hi hj)]
      refine ih (i + 1) (i + 1) _ (by omega) (by omega) (Nat.le_refl _) (fun w => ?_) (fun w => w) (fun j h1 h2 => by omega) ?_
      · rw [Nat.add_sub_cancel]
        rcases hi with z | z
        · omega
        · exact z
      · rw [cf_fla, hfl, Nat.add_sub_cancel]
        have e : i = s - 1 + (1 + (i - s)) := by omega
        have q := cf_sbA dd 0 (s - 1) (1 + (i - s))
        rw [← e, Nat.zero_add, cf_sbA dd (s - 1) 1 (i - s), show s - 1 + 1 = s by omega] at q
        rw [q]
        show _ = cf_sb dd 0 (s - 1) ++ ([dd (s - 1 + 0)] ++ _)
        rw [Nat.add_zero, h7]
        rfl
theorem cf_paT {T : List Nat} (h0 : 0 < T.length) (h47 : cf_dD T 0 = 47) (hnd : cf_ND (cf_dD T) T.length) : cf_pa T = T := by
  have e : cf_pa T = cf_fl (cf_dD T) (cf_gs T) := cf_ptN (cf_gsN h0)
  rw [e]
  have q := cf_sgT hnd T.length 1 1 [] (by omega) (Nat.le_refl _) (Nat.le_refl _) (fun _ => h47) (fun w => by omega) (fun j h1 h2 => by omega) rfl
  exact q.trans (cf_sbD T)
/-- what each kept segment is -/
def cf_Sp (dd : Nat → Nat) (p : Nat × Nat) : Prop := ¬ cf_Dt dd p.1 p.2 ∧ cf_Nm (cf_sb dd p.1 p.2) ∧ ∀ j, j < p.2 → dd (p.1 + j) ≠ 47
theorem cf_Sp0 (dd : Nat → Nat) (s : Nat) : cf_Sp dd (s, 0) := by
  refine ⟨fun w => ?_, cf_Nm0, fun j hj => absurd hj (Nat.not_lt_zero j)⟩
  rcases w with w | w
  · exact absurd w.1 (by decide)
  · exact absurd w.1 (by decide)
theorem cf_stSp {dd : Nat → Nat} {n i s : Nat} {g : List (Nat × Nat)} (hg : ∀ p, p ∈ g → cf_Sp dd p) (hs : ¬ cf_Dt dd s (i - s) → cf_Sp dd (s, i - s)) : ∀ p, p ∈ cf_st dd n i s g → cf_Sp dd p := by
  intro p hp
  by_cases d : cf_Dt dd s (i - s)
  · unfold cf_st at hp
    split at hp
    · split at hp
      · rcases List.mem_append.mp hp with z | z
        · exact hg p z
        · rw [List.mem_singleton.mp z]
          exact cf_Sp0 dd s
      · exact hg p hp
    · split at hp
      · split at hp
        · rcases List.mem_append.mp hp with z | z
          · exact hg p (List.mem_of_mem_take z)
          · rw [List.mem_singleton.mp z]
            exact cf_Sp0 dd s
        · exact hg p (List.mem_of_mem_take hp)
      · rename_i w1 w2
        exact absurd d (fun w => w.elim w1 w2)
  · rw [cf_stD d] at hp
    rcases List.mem_append.mp hp with z | z
    · exact hg p z
    · rw [List.mem_singleton.mp z]
      exact hs d
theorem cf_segN {D : List Nat} {n s i : Nat} (hD : cf_N2 n D) (hs : 1 ≤ s) (hsi : s ≤ i) (hi : i ≤ D.length) (h7 : cf_dD D (s - 1) = 47) (he : i = D.length ∨ cf_dD D i = 47) : cf_N2 n (cf_sb (cf_dD D) s (i - s)) := by
  have e1 : D = cf_sb (cf_dD D) 0 (s - 1) ++ 47 :: cf_sb (cf_dD D) s (D.length - s) := by
    have q := cf_sbA (cf_dD D) 0 (s - 1) (1 + (D.length - s))
    rw [show s - 1 + (1 + (D.length - s)) = D.length by omega, Nat.zero_add, cf_sbA (cf_dD D) (s - 1) 1 (D.length - s), show s - 1 + 1 = s by omega, cf_sbD] at q
    refine q.trans ?_
    show _ ++ ([cf_dD D (s - 1 + 0)] ++ _) = _
    rw [Nat.add_zero, h7]
    rfl
  rw [e1] at hD
  have q := (cf_NmS n _ hD).2
  rcases he with z | z
  · rw [z]
    exact q
  · rcases Nat.lt_or_ge i D.length with y | y
    · have e2 : cf_sb (cf_dD D) s (D.length - s) = cf_sb (cf_dD D) s (i - s) ++ 47 :: cf_sb (cf_dD D) (i + 1) (D.length - (i + 1)) := by
        have r := cf_sbA (cf_dD D) s (i - s) (1 + (D.length - (i + 1)))
        rw [show i - s + (1 + (D.length - (i + 1))) = D.length - s by omega, show s + (i - s) = i by omega, cf_sbA (cf_dD D) i 1 (D.length - (i + 1))] at r
        refine r.trans ?_
        show _ ++ ([cf_dD D (i + 0)] ++ _) = _
        rw [Nat.add_zero, z]
        rfl
      rw [e2] at q
      exact (cf_NmS n _ q).1
    · have e : i = D.length := by omega
      rw [e]
      exact q
theorem cf_sgSp {D : List Nat} {n : Nat} (hD : cf_N2 n D) : ∀ d i s g, i + d = D.length + 1 → 1 ≤ s → s ≤ i → (i ≤ D.length → cf_dD D (s - 1) = 47) → (∀ j, s ≤ j → j < i → cf_dD D j ≠ 47) → (∀ p, p ∈ g → cf_Sp (cf_dD D) p) → ∀ p, p ∈ cf_sg (cf_dD D) D.length d i s g → cf_Sp (cf_dD D) p := by
  intro d
  induction d with
  | zero => intro i s g hd hs hsi h47 hj hg; exact hg
  | succ d ih =>
    intro i s g hd hs hsi h47 hj hg
    by_cases c : i < D.length ∧ cf_dD D i ≠ 47
    · rw [cf_sgC c]
      refine ih (i + 1) s g (by omega) hs (by omega) (fun _ => h47 (by omega)) (fun j h1 h2 => ?_) hg
      rcases Nat.lt_or_ge j i with z | z
      · exact hj j h1 z
      · have e : j = i := by omega
        rw [e]
        exact c.2
    · rw [cf_sgS c]
      have h7 := h47 (by omega)
      have hi : i = D.length ∨ cf_dD D i = 47 := by
        by_cases z : i < D.length
        · exact Or.inr (Classical.not_not.mp (fun w => c ⟨z, w⟩))
        · exact Or.inl (by omega)
      refine ih (i + 1) (i + 1) _ (by omega) (by omega) (Nat.le_refl _) (fun w => ?_) (fun j h1 h2 => by omega) (cf_stSp hg (fun nd => ⟨nd, ⟨n, cf_segN hD hs hsi (by omega) h7 hi⟩, fun j z => ?_⟩))
      · rw [Nat.add_sub_cancel]
        rcases hi with z | z
        · omega
        · exact z
      · have z' : j < i - s := z
        exact hj (s + j) (by omega) (by omega)
theorem cf_flNm {dd : Nat → Nat} : ∀ g : List (Nat × Nat), (∀ p, p ∈ g → cf_Sp dd p) → cf_Nm (cf_fl dd g)
  | [], _ => cf_Nm0
  | p :: r, h => by
    have e : cf_fl dd (p :: r) = cf_fl dd [p] ++ cf_fl dd r := cf_flA dd [p] r
    rw [e, cf_fl1]
    obtain ⟨n, q⟩ := (h p List.mem_cons_self).2.1
    exact cf_Nm1 (by decide) (cf_NmA (cf_flNm r (fun x hx => h x (List.mem_cons_of_mem p hx))) n _ q)
theorem cf_flND {dd : Nat → Nat} : ∀ g : List (Nat × Nat), (∀ p, p ∈ g → cf_Sp dd p) → cf_ND (cf_dD (cf_fl dd g)) (cf_fl dd g).length
  | [], _ => by
    intro s i h1 h2 h3
    have z : (cf_fl dd []).length = 0 := rfl
    omega
  | p :: r, h => by
    have hp := h p List.mem_cons_self
    have ih := cf_flND r (fun x hx => h x (List.mem_cons_of_mem p hx))
    have e : cf_fl dd (p :: r) = (47 :: cf_sb dd p.1 p.2) ++ cf_fl dd r := by
      have q : cf_fl dd (p :: r) = cf_fl dd [p] ++ cf_fl dd r := cf_flA dd [p] r
      rw [q, cf_fl1]
    have hl : (47 :: cf_sb dd p.1 p.2).length = p.2 + 1 := by rw [List.length_cons, cf_sbL]
    have hN : (cf_fl dd (p :: r)).length = p.2 + 1 + (cf_fl dd r).length := by rw [e, List.length_append, hl]
    have g1 : ∀ j, j < p.2 → cf_dD (cf_fl dd (p :: r)) (1 + j) = dd (p.1 + j) := by
      intro j hj
      unfold cf_dD
      rw [e, cf_gdl (by rw [hl]; omega), Nat.add_comm 1 j, List.getD_cons_succ, cf_sbG _ _ _ _ hj]
    have g2 : ∀ j, cf_dD (cf_fl dd (p :: r)) (p.2 + 1 + j) = cf_dD (cf_fl dd r) j := by
      intro j
      unfold cf_dD
      have q := cf_gda (l := 47 :: cf_sb dd p.1 p.2) (m := cf_fl dd r) (j := j)
      rw [hl] at q
      rw [e]
      exact q
    have g3 : 0 < (cf_fl dd r).length → cf_dD (cf_fl dd r) 0 = 47 := by
      intro z
      cases r with
      | nil => exact absurd z (Nat.lt_irrefl 0)
      | cons p' r' =>
        have q : cf_fl dd (p' :: r') = cf_fl dd [p'] ++ cf_fl dd r' := cf_flA dd [p'] r'
        rw [q, cf_fl1]
        rfl
    intro s i h1 h2 h3 h7 he hj
    rw [hN] at h3 he
    rcases Nat.lt_or_ge s (p.2 + 2) with z | z
    · have s1 : s = 1 := by
        rcases Nat.lt_or_ge 1 s with y | y
        · have q := g1 (s - 2) (by omega)
          rw [show 1 + (s - 2) = s - 1 by omega] at q
          rw [q] at h7
          exact absurd h7 (hp.2.2 (s - 2) (by omega))
        · omega
      subst s1
      have ei : i = p.2 + 1 := by
        rcases Nat.lt_trichotomy i (p.2 + 1) with y | y | y
        · rcases he with w | w
          · omega
          · have q := g1 (i - 1) (by omega)
            rw [show 1 + (i - 1) = i by omega] at q
            rw [q] at w
            exact absurd w (hp.2.2 (i - 1) (by omega))
        · exact y
        · have q := g2 0
          rw [Nat.add_zero, g3 (by omega)] at q
          exact absurd q (hj (p.2 + 1) (by omega) y)
      intro w
      apply hp.1
      rw [ei, Nat.add_sub_cancel] at w
      rcases w with ⟨w1, w2⟩ | ⟨w1, w2, w3⟩
      · have q := g1 0 (by omega)
        rw [Nat.add_zero, Nat.add_zero] at q
        rw [q] at w2
        exact Or.inl ⟨w1, w2⟩
      · have q := g1 0 (by omega)
        have q2 := g1 1 (by omega)
        rw [Nat.add_zero, Nat.add_zero] at q
        rw [q] at w2
        rw [q2] at w3
        exact Or.inr ⟨w1, w2, w3⟩
    · obtain ⟨s', rfl⟩ : ∃ s', s = p.2 + 1 + s' := ⟨s - (p.2 + 1), by omega⟩
      obtain ⟨i', rfl⟩ : ∃ i', i = p.2 + 1 + i' := ⟨i - (p.2 + 1), by omega⟩
      have r7 := g2 (s' - 1)
      rw [show p.2 + 1 + (s' - 1) = p.2 + 1 + s' - 1 by omega, h7] at r7
      have q := ih s' i' (by omega) (by omega) (by omega) r7.symm (by
        rcases he with w | w
        · exact Or.inl (by omega)
        · rw [g2] at w
          exact Or.inr w) (fun j j1 j2 w => hj (p.2 + 1 + j) (by omega) (by omega) (by rw [g2]; exact w))
      intro w
      apply q
      rw [show p.2 + 1 + i' - (p.2 + 1 + s') = i' - s' by omega] at w
      rcases w with ⟨w1, w2⟩ | ⟨w1, w2, w3⟩
      · rw [g2] at w2
        exact Or.inl ⟨w1, w2⟩
      · rw [g2] at w2
        rw [Nat.add_assoc, g2] at w3
        exact Or.inr ⟨w1, w2, w3⟩
/-- the path's answer: normal, and itself once more -/
theorem cf_paN {D : List Nat} {n : Nat} (hD : cf_N2 n D) (h47 : 0 < D.length → cf_dD D 0 = 47) : cf_Nm (cf_pa D) ∧ cf_pa (cf_pa D) = cf_pa D := by
  rcases Nat.eq_zero_or_pos D.length with z | z
  · have e : D = [] := List.eq_nil_of_length_eq_zero z
    subst e
    exact ⟨cf_Nm1 (by decide) cf_Nm0, rfl⟩
  · have e : cf_pa D = cf_fl (cf_dD D) (cf_gs D) := cf_ptN (cf_gsN z)
    have sp : ∀ p, p ∈ cf_gs D → cf_Sp (cf_dD D) p := cf_sgSp hD D.length 1 1 [] (by omega) (Nat.le_refl _) (Nat.le_refl _) (fun _ => h47 z) (fun j h1 h2 => by omega) (fun p hp => by cases hp)
    obtain ⟨r, hr⟩ := cf_ptH (cf_dD D) (cf_gs D)
    have hr' : cf_pa D = 47 :: r := hr
    refine ⟨by rw [e]; exact cf_flNm _ sp, ?_⟩
    refine cf_paT (by rw [hr']; exact Nat.succ_pos _) (by rw [hr']; rfl) ?_
    rw [e]
    exact cf_flND _ sp
