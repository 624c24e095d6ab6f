/-! the percent rule once more over its own answer -/
theorem cf_upup {h : Nat} : cf_up (cf_up h) = cf_up h := by
  unfold cf_up
  by_cases z : 97 ≤ h ∧ h ≤ 102
  · rw [if_pos z, if_neg (by omega)]
  · rw [if_neg z, if_neg z]
theorem cf_hvup {h : Nat} (hh : cf_hv h < 16) : cf_hv (cf_up h) = cf_hv h := by
  unfold cf_up
  by_cases z : 97 ≤ h ∧ h ≤ 102
  · rw [if_pos z]
    have e1 : cf_hv h = h - 87 := by unfold cf_hv; rw [if_neg (by omega), if_neg (by omega), if_pos z]
    have e2 : cf_hv (h - 32) = h - 32 - 55 := by unfold cf_hv; rw [if_neg (by omega), if_pos (by omega)]
    omega
  · rw [if_neg z]
theorem cf_hv47 {h : Nat} (hh : cf_hv h < 16) : h ≠ 47 ∧ h ≠ 63 ∧ h ≠ 35 ∧ cf_up h ≠ 47 ∧ cf_up h ≠ 63 ∧ cf_up h ≠ 35 := by
  unfold cf_up
  unfold cf_hv at hh
  by_cases a : 48 ≤ h ∧ h ≤ 57
  · rw [if_neg (by omega)]
    omega
  · rw [if_neg a] at hh
    by_cases b : 65 ≤ h ∧ h ≤ 70
    · rw [if_neg (by omega)]
      omega
    · rw [if_neg b] at hh
      by_cases d : 97 ≤ h ∧ h ≤ 102
      · rw [if_pos d]
        omega
      · rw [if_neg d] at hh
        omega
theorem cf_UN37 {c : Nat} (h : cf_UN c) : c ≠ 37 ∧ c ≠ 47 ∧ c ≠ 63 ∧ c ≠ 35 := by
  unfold cf_UN cf_HC at h
  omega
/-- a text that the percent rule leaves as it is, wherever it stands -/
def cf_N2 : Nat → List Nat → Prop
  | 0, l => l = []
  | n + 1, l => l = [] ∨ (∃ c r, l = c :: r ∧ c ≠ 37 ∧ cf_N2 n r) ∨ (∃ h k r, l = 37 :: h :: k :: r ∧ cf_hv h < 16 ∧ cf_hv k < 16 ∧ cf_up h = h ∧ cf_up k = k ∧ ¬ cf_UN (cf_hv h * 16 + cf_hv k) ∧ cf_N2 n r)
def cf_Nm (l : List Nat) : Prop := ∃ n, cf_N2 n l
theorem cf_N2m : ∀ n m l, n ≤ m → cf_N2 n l → cf_N2 m l := by
  intro n
  induction n with
  | zero =>
    intro m l hm h
    cases m with
    | zero => exact h
    | succ m => exact Or.inl h
  | succ n ih =>
    intro m l hm h
    cases m with
    | zero => omega
    | succ m =>
      rcases h with h | ⟨c, r, e, hc, h⟩ | ⟨a, b, r, e, h1, h2, h3, h4, h5, h⟩
      · exact Or.inl h
      · exact Or.inr (Or.inl ⟨c, r, e, hc, ih m r (by omega) h⟩)
      · exact Or.inr (Or.inr ⟨a, b, r, e, h1, h2, h3, h4, h5, ih m r (by omega) h⟩)
theorem cf_Nm0 : cf_Nm [] := ⟨0, rfl⟩
theorem cf_Nm1 {c : Nat} {r : List Nat} (hc : c ≠ 37) (h : cf_Nm r) : cf_Nm (c :: r) := by
  obtain ⟨n, h⟩ := h
  exact ⟨n + 1, Or.inr (Or.inl ⟨c, r, rfl, hc, h⟩)⟩
theorem cf_NmA {B : List Nat} (hB : cf_Nm B) : ∀ n A, cf_N2 n A → cf_Nm (A ++ B) := by
  intro n
  induction n with
  | zero =>
    intro A h
    have e : A = [] := h
    rw [e]
    exact hB
  | succ n ih =>
    intro A h
    rcases h with h | ⟨c, r, e, hc, h⟩ | ⟨a, b, r, e, h1, h2, h3, h4, h5, h⟩
    · rw [h]
      exact hB
    · rw [e]
      exact cf_Nm1 hc (ih r h)
    · rw [e]
      obtain ⟨m, q⟩ := ih r h
      exact ⟨m + 1, Or.inr (Or.inr ⟨a, b, r ++ B, rfl, h1, h2, h3, h4, h5, q⟩)⟩
theorem cf_NmS {B : List Nat} : ∀ n A, cf_N2 n (A ++ 47 :: B) → cf_N2 n A ∧ cf_N2 n B := by
  intro n
  induction n with
  | zero =>
    intro A h
    have e : A ++ 47 :: B = [] := h
    simp at e
  | succ n ih =>
    intro A h
    rcases h with h | ⟨c, r, e, hc, h⟩ | ⟨a, b, r, e, h1, h2, h3, h4, h5, h⟩
    · simp at h
    · cases A with
      | nil =>
        obtain ⟨-, e2⟩ := List.cons.inj e
        rw [e2]
        exact ⟨Or.inl rfl, cf_N2m n (n + 1) r (by omega) h⟩
      | cons x A' =>
        obtain ⟨e1, e2⟩ := List.cons.inj e
        have e2' : r = A' ++ 47 :: B := e2.symm
        rw [e2'] at h
        obtain ⟨q1, q2⟩ := ih A' h
        exact ⟨Or.inr (Or.inl ⟨c, A', by rw [e1], hc, q1⟩), cf_N2m n (n + 1) B (by omega) q2⟩
    · cases A with
      | nil =>
        obtain ⟨e1, -⟩ := List.cons.inj e
        exact absurd e1 (by decide)
      | cons x A =>
        obtain ⟨e1, e⟩ := List.cons.inj e
        cases A with
        | nil =>
          obtain ⟨e2, -⟩ := List.cons.inj e
          exact absurd e2.symm (cf_hv47 h1).1
        | cons y A =>
          obtain ⟨e2, e⟩ := List.cons.inj e
          cases A with
          | nil =>
            obtain ⟨e3, -⟩ := List.cons.inj e
            exact absurd e3.symm (cf_hv47 h2).1
          | cons z A =>
            obtain ⟨e3, e⟩ := List.cons.inj e
            have e' : r = A ++ 47 :: B := e.symm
            rw [e'] at h
            obtain ⟨q1, q2⟩ := ih A h
            refine ⟨Or.inr (Or.inr ⟨a, b, A, by rw [e1, e2, e3], h1, h2, h3, h4, h5, q1⟩), cf_N2m n (n + 1) B (by omega) q2⟩
theorem cf_dcI {t : Nat → Nat} {e : Nat} : ∀ n i D, cf_dc t e n i = some D → cf_N2 n D := by
  intro n
  induction n with
  | zero =>
    intro i D h
    cases h
    rfl
  | succ n ih =>
    intro i D h
    rcases Nat.lt_or_ge i e with hi | hi
    · by_cases hc : t i = 37
      · rcases Nat.lt_or_ge (i + 2) e with h2 | h2
        · by_cases hx : cf_hv (t (i + 1)) < 16 ∧ cf_hv (t (i + 2)) < 16
          · rw [cf_dcT h2 hc hx] at h
            obtain ⟨D', hD, rfl⟩ := Option.map_eq_some_iff.mp h
            have hN := ih (i + 3) D' hD
            rcases Classical.em (cf_UN (cf_hv (t (i + 1)) * 16 + cf_hv (t (i + 2)))) with u | u
            · rw [cf_trP u]
              exact Or.inr (Or.inl ⟨_, D', rfl, (cf_UN37 u).1, hN⟩)
            · rw [cf_trN u]
              have v1 := cf_hvup hx.1
              have v2 := cf_hvup hx.2
              exact Or.inr (Or.inr ⟨cf_up (t (i + 1)), cf_up (t (i + 2)), D', rfl, by rw [v1]; exact hx.1, by rw [v2]; exact hx.2, cf_upup, cf_upup, by rw [v1, v2]; exact u, hN⟩)
          · rw [cf_dcX h2 hc hx] at h
            cases h
        · rw [cf_dcS hi hc h2] at h
          cases h
      · rw [cf_dcC hi hc] at h
        obtain ⟨D', hD, rfl⟩ := Option.map_eq_some_iff.mp h
        exact Or.inr (Or.inl ⟨_, D', rfl, hc, ih (i + 1) D' hD⟩)
    · rw [cf_dcE hi] at h
      cases h
      exact Or.inl rfl
theorem cf_Nmd {t : Nat → Nat} : ∀ n D i m, cf_N2 n D → (∀ j, j < D.length → t (i + j) = D.getD j 0) → D.length ≤ m → cf_dc t (i + D.length) m i = some D := by
  intro n
  induction n with
  | zero =>
    intro D i m h ht hm
    have e : D = [] := h
    subst e
    exact cf_dcE (Nat.le_refl _)
  | succ n ih =>
    intro D i m h ht hm
    rcases h with h | ⟨c, r, e, hc, h⟩ | ⟨a, b, r, e, h1, h2, h3, h4, h5, h⟩
    · subst h
      exact cf_dcE (Nat.le_refl _)
    · subst e
      rw [List.length_cons] at hm ⊢
      obtain ⟨k, rfl⟩ : ∃ k, m = k + 1 := ⟨m - 1, by omega⟩
      have h0 : t i = c := ht 0 (by rw [List.length_cons]; omega)
      rw [cf_dcC (by omega) (by rw [h0]; exact hc), h0]
      have q := ih r (i + 1) k h (fun j hj => by
        have q := ht (j + 1) (by rw [List.length_cons]; omega)
        rw [show i + 1 + j = i + (j + 1) by omega, q, List.getD_cons_succ]) (by omega)
      rw [show i + 1 + r.length = i + (r.length + 1) by omega] at q
      rw [q]
      rfl
    · subst e
      have el : (37 :: a :: b :: r).length = r.length + 3 := rfl
      rw [el] at hm ⊢
      obtain ⟨k, rfl⟩ : ∃ k, m = k + 1 := ⟨m - 1, by omega⟩
      have q0 : t i = 37 := ht 0 (by rw [el]; omega)
      have q1 : t (i + 1) = a := ht 1 (by rw [el]; omega)
      have q2 : t (i + 2) = b := ht 2 (by rw [el]; omega)
      rw [cf_dcT (by omega) q0 (by rw [q1, q2]; exact ⟨h1, h2⟩), q1, q2, cf_trN h5, h3, h4]
      have q := ih r (i + 3) k h (fun j hj => by
        have q := ht (j + 3) (by rw [el]; omega)
        rw [show i + 3 + j = i + (j + 3) by omega, q, List.getD_cons_succ, List.getD_cons_succ, List.getD_cons_succ]) (by omega)
      rw [show i + 3 + r.length = i + (r.length + 3) by omega] at q
      rw [q]
      rfl
theorem cf_dcX63 {t : Nat → Nat} {e x : Nat} (hx : x = 63 ∨ x = 35) : ∀ n i D, (∀ j, i ≤ j → j < e → t j ≠ x) → cf_dc t e n i = some D → ∀ c, c ∈ D → c ≠ x := by
  intro n
  induction n with
  | zero =>
    intro i D hj h
    cases h
    exact fun c hc => by cases hc
  | succ n ih =>
    intro i D hj h
    rcases Nat.lt_or_ge i e with hi | hi
    · by_cases hc : t i = 37
      · rcases Nat.lt_or_ge (i + 2) e with h2 | h2
        · by_cases hh : cf_hv (t (i + 1)) < 16 ∧ cf_hv (t (i + 2)) < 16
          · rw [cf_dcT h2 hc hh] at h
            obtain ⟨D', hD, rfl⟩ := Option.map_eq_some_iff.mp h
            intro c hc
            rcases List.mem_append.mp hc with z | z
            · rcases Classical.em (cf_UN (cf_hv (t (i + 1)) * 16 + cf_hv (t (i + 2)))) with u | u
              · rw [cf_trP u] at z
                have q := cf_UN37 u
                rw [List.mem_singleton.mp z]
                omega
              · rw [cf_trN u] at z
                have q1 := cf_hv47 hh.1
                have q2 := cf_hv47 hh.2
                rcases List.mem_cons.mp z with w | z
                · omega
                · rcases List.mem_cons.mp z with w | z
                  · omega
                  · have w := List.mem_singleton.mp z
                    omega
            · exact ih (i + 3) D' (fun j h1 h3 => hj j (by omega) h3) hD c z
          · rw [cf_dcX h2 hc hh] at h
            cases h
        · rw [cf_dcS hi hc h2] at h
          cases h
      · rw [cf_dcC hi hc] at h
        obtain ⟨D', hD, rfl⟩ := Option.map_eq_some_iff.mp h
        intro c hc
        rcases List.mem_cons.mp hc with z | z
        · rw [z]
          exact hj i (Nat.le_refl _) hi
        · exact ih (i + 1) D' (fun j h1 h3 => hj j (by omega) h3) hD c z
    · rw [cf_dcE hi] at h
      cases h
      exact fun c hc => by cases hc
