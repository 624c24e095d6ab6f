/-! scans, counts, sums -/
def cf_FF (P : Nat → Prop) (n : Nat) (r : Int32) : Prop := (∃ j, j < n ∧ P j ∧ (∀ i, i < j → ¬ P i) ∧ r = nI j) ∨ ((∀ j, j < n → ¬ P j) ∧ r = -1)
theorem cf_FFu {P Q : Nat → Prop} {n : Nat} {r r' : Int32} (e : ∀ j, j < n → (P j ↔ Q j)) (h : cf_FF P n r) (h' : cf_FF Q n r') : r = r' := by
  rcases h with ⟨j, hj, pj, lj, rfl⟩ | ⟨nj, rfl⟩ <;> rcases h' with ⟨k, hk, pk, lk, rfl⟩ | ⟨nk, rfl⟩
  · rcases Nat.lt_trichotomy j k with z | z | z
    · exact absurd ((e j hj).mp pj) (lk j z)
    · rw [z]
    · exact absurd ((e k hk).mpr pk) (lj k z)
  · exact absurd ((e j hj).mp pj) (nk j hj)
  · exact absurd ((e k hk).mpr pk) (nj k hk)
  · rfl
theorem cf_m1 {j : Nat} (h : j < 2 ^ 31) : ¬ nI j = -1 := by
  intro e
  have a := nI_toInt h
  rw [e] at a
  have b : (-1 : Int32).toInt = -1 := by decide
  omega
theorem cf_m1' {j : Nat} (h : j < 2 ^ 31) : ¬ (-1 : Int32) = nI j := fun e => cf_m1 h e.symm
theorem cf_m0 : (-1 : Int32) < 0 := by decide
def cf_sm (f : Nat → Int32) : Nat → Int32
  | 0 => 0
  | n + 1 => cf_sm f n + f n
theorem cf_smE {f g : Nat → Int32} : ∀ n, (∀ j, j < n → f j = g j) → cf_sm f n = cf_sm g n
  | 0, _ => rfl
  | n + 1, h => by
    show cf_sm f n + f n = cf_sm g n + g n
    rw [cf_smE n (fun j hj => h j (by omega)), h n (by omega)]
noncomputable def cf_b1 (P : Prop) : Nat := @ite Nat P (Classical.propDecidable P) 1 0
theorem cf_b1t {P : Prop} (h : P) : cf_b1 P = 1 := by unfold cf_b1; rw [if_pos h]
theorem cf_b1f {P : Prop} (h : ¬ P) : cf_b1 P = 0 := by unfold cf_b1; rw [if_neg h]
noncomputable def cf_ct (P : Nat → Prop) : Nat → Nat
  | 0 => 0
  | n + 1 => cf_ct P n + cf_b1 (P n)
theorem cf_ctT {P : Nat → Prop} {n : Nat} (h : P n) : cf_ct P (n + 1) = cf_ct P n + 1 := by rw [cf_ct, cf_b1t h]
theorem cf_ctF {P : Nat → Prop} {n : Nat} (h : ¬ P n) : cf_ct P (n + 1) = cf_ct P n := by rw [cf_ct, cf_b1f h]; rfl
theorem cf_ctB (P : Nat → Prop) : ∀ n, cf_ct P n ≤ n
  | 0 => Nat.le_refl 0
  | n + 1 => by
    have a := cf_ctB P n
    rcases Classical.em (P n) with h | h
    · rw [cf_ctT h]; omega
    · rw [cf_ctF h]; omega
theorem cf_ctE {P Q : Nat → Prop} : ∀ n, (∀ j, j < n → (P j ↔ Q j)) → cf_ct P n = cf_ct Q n
  | 0, _ => rfl
  | n + 1, h => by
    have a := cf_ctE n (fun j hj => h j (by omega))
    have b := h n (by omega)
    rcases Classical.em (P n) with z | z
    · rw [cf_ctT z, cf_ctT (b.mp z), a]
    · rw [cf_ctF z, cf_ctF (fun y => z (b.mpr y)), a]
theorem cf_ct1 {P Q : Nat → Prop} {a : Nat} (hp : ¬ P a) (hq : Q a) : ∀ n, a < n → (∀ j, j < n → j ≠ a → (P j ↔ Q j)) → cf_ct Q n = cf_ct P n + 1
  | 0, h, _ => by omega
  | n + 1, h, e => by
    rcases Nat.lt_or_ge a n with z | z
    · have i := cf_ct1 hp hq n z (fun j hj => e j (by omega))
      have b := e n (by omega) (by omega)
      rcases Classical.em (P n) with y | y
      · rw [cf_ctT y, cf_ctT (b.mp y), i]
      · rw [cf_ctF y, cf_ctF (fun x => y (b.mpr x)), i]
    · have ea : a = n := by omega
      subst ea
      rw [cf_ctT hq, cf_ctF hp, cf_ctE a (fun j hj => e j (by omega) (by omega))]
theorem cf_ctP {P : Nat → Prop} : ∀ n, (0 < cf_ct P n ↔ ∃ j, j < n ∧ P j)
  | 0 => ⟨fun h => absurd h (Nat.lt_irrefl 0), fun ⟨j, h, _⟩ => absurd h (Nat.not_lt_zero j)⟩
  | n + 1 => by
    have i := cf_ctP (P := P) n
    rcases Classical.em (P n) with h | h
    · rw [cf_ctT h]
      exact ⟨fun _ => ⟨n, by omega, h⟩, fun _ => by omega⟩
    · rw [cf_ctF h, i]
      refine ⟨fun ⟨j, hj, pj⟩ => ⟨j, by omega, pj⟩, fun ⟨j, hj, pj⟩ => ⟨j, ?_, pj⟩⟩
      rcases Nat.lt_or_ge j n with z | z
      · exact z
      · have e : j = n := by omega
        rw [e] at pj
        exact absurd pj h
noncomputable def cf_ch (R : Nat → Prop) (nx : Nat → Int32) : Nat → Int32
  | 0 => -1
  | h + 1 => @ite _ (R h ∧ (cf_ch R nx h = -1 ∨ nx h < nx (cf_ch R nx h).toNatClampNeg)) (Classical.propDecidable _) (nI h) (cf_ch R nx h)
theorem cf_chT {R : Nat → Prop} {nx : Nat → Int32} {h : Nat} (z : R h ∧ (cf_ch R nx h = -1 ∨ nx h < nx (cf_ch R nx h).toNatClampNeg)) : cf_ch R nx (h + 1) = nI h := by
  rw [cf_ch, if_pos z]
theorem cf_chF {R : Nat → Prop} {nx : Nat → Int32} {h : Nat} (z : ¬ (R h ∧ (cf_ch R nx h = -1 ∨ nx h < nx (cf_ch R nx h).toNatClampNeg))) : cf_ch R nx (h + 1) = cf_ch R nx h := by
  rw [cf_ch, if_neg z]
theorem cf_chI (R : Nat → Prop) (nx : Nat → Int32) : ∀ n, cf_ch R nx n = -1 ∨ ∃ j, j < n ∧ R j ∧ cf_ch R nx n = nI j
  | 0 => Or.inl rfl
  | n + 1 => by
    rcases Classical.em (R n ∧ (cf_ch R nx n = -1 ∨ nx n < nx (cf_ch R nx n).toNatClampNeg)) with z | z
    · exact Or.inr ⟨n, by omega, z.1, cf_chT z⟩
    · rw [cf_chF z]
      rcases cf_chI R nx n with y | ⟨j, hj, rj, e⟩
      · exact Or.inl y
      · exact Or.inr ⟨j, by omega, rj, e⟩
noncomputable def cf_bk (M : Nat → Prop) (us : Nat → Int32) : Nat → (Nat → Int32) × Nat
  | 0 => (us, 0)
  | k + 1 => @ite _ ((cf_bk M us k).1 k = 1 ∧ M k) (Classical.propDecidable _) (upd (cf_bk M us k).1 k 3, (cf_bk M us k).2 + 1) (cf_bk M us k)
theorem cf_bkT {M : Nat → Prop} {us : Nat → Int32} {k : Nat} (h : (cf_bk M us k).1 k = 1 ∧ M k) : cf_bk M us (k + 1) = (upd (cf_bk M us k).1 k 3, (cf_bk M us k).2 + 1) := by
  rw [cf_bk, if_pos h]
theorem cf_bkF {M : Nat → Prop} {us : Nat → Int32} {k : Nat} (h : ¬ ((cf_bk M us k).1 k = 1 ∧ M k)) : cf_bk M us (k + 1) = cf_bk M us k := by
  rw [cf_bk, if_neg h]
theorem cf_bkI (M : Nat → Prop) (us : Nat → Int32) : ∀ k, (cf_bk M us k).2 ≤ k ∧ ∀ j, (cf_bk M us k).1 j = us j ∨ (us j = 1 ∧ (cf_bk M us k).1 j = 3)
  | 0 => ⟨Nat.le_refl 0, fun j => Or.inl rfl⟩
  | k + 1 => by
    obtain ⟨a, b⟩ := cf_bkI M us k
    rcases Classical.em ((cf_bk M us k).1 k = 1 ∧ M k) with z | z
    · rw [cf_bkT z]
      refine ⟨Nat.succ_le_succ a, fun j => ?_⟩
      show upd (cf_bk M us k).1 k 3 j = us j ∨ (us j = 1 ∧ upd (cf_bk M us k).1 k 3 j = 3)
      by_cases e : j = k
      · subst e
        rw [pk_us]
        rcases b j with y | y
        · exact Or.inr ⟨by rw [← y]; exact z.1, rfl⟩
        · exact Or.inr ⟨y.1, rfl⟩
      · rw [pk_un e]
        exact b j
    · rw [cf_bkF z]
      exact ⟨by omega, b⟩
/-! a stretch copied into an array -/
def cf_cp (f : Nat → Int32) (at0 : Nat) (g : Nat → Int32) (fr : Nat) : Nat → (Nat → Int32)
  | 0 => f
  | n + 1 => upd (cf_cp f at0 g fr n) (at0 + n) (g (fr + n))
theorem cf_cpE {f g g' : Nat → Int32} {at0 fr : Nat} : ∀ n, (∀ j, j < n → g (fr + j) = g' (fr + j)) → cf_cp f at0 g fr n = cf_cp f at0 g' fr n
  | 0, _ => rfl
  | n + 1, h => by
    show upd (cf_cp f at0 g fr n) (at0 + n) (g (fr + n)) = upd (cf_cp f at0 g' fr n) (at0 + n) (g' (fr + n))
    rw [cf_cpE n (fun j hj => h j (by omega)), h n (by omega)]
theorem cf_cpO {f g : Nat → Int32} {at0 fr k : Nat} : ∀ n, (k < at0 ∨ at0 + n ≤ k) → cf_cp f at0 g fr n k = f k
  | 0, _ => rfl
  | n + 1, h => by
    show upd (cf_cp f at0 g fr n) (at0 + n) (g (fr + n)) k = f k
    rw [pk_un (by omega)]
    exact cf_cpO n (by omega)
theorem cf_cpI {f g : Nat → Int32} {at0 fr : Nat} : ∀ n j, j < n → cf_cp f at0 g fr n (at0 + j) = g (fr + j)
  | 0, j, h => absurd h (Nat.not_lt_zero j)
  | n + 1, j, h => by
    show upd (cf_cp f at0 g fr n) (at0 + n) (g (fr + n)) (at0 + j) = g (fr + j)
    rcases Nat.lt_or_ge j n with z | z
    · rw [pk_un (by omega)]
      exact cf_cpI n j z
    · have e : j = n := by omega
      rw [e, pk_us]
def cf_EQ (a : Nat → Int32) (o : Nat) (b : Nat → Int32) (p n : Nat) : Prop := ∀ i, i < n → a (o + i) = b (p + i)
/-! loops -/
theorem cf_scan (W : Nat → Nat → Prop) (P : Nat → Prop) (n : Nat) (hx : ∀ f, (∀ j, j < n → ¬ P j) → W (f + 1) n) (hp : ∀ f i, i < n → P i → (∀ j, j < i → ¬ P j) → W (f + 1) i) (hn : ∀ f i, i < n → ¬ P i → W f (i + 1) → W (f + 1) i) : ∀ d i f, i + d = n → d < f → (∀ j, j < i → ¬ P j) → W f i := by
  intro d
  induction d with
  | zero =>
    intro i f hi hf hj
    have e : i = n := by omega
    subst e
    cases f with
    | zero => omega
    | succ f => exact hx f hj
  | succ d ih =>
    intro i f hi hf hj
    cases f with
    | zero => omega
    | succ f =>
      rcases Classical.em (P i) with p | p
      · exact hp f i (by omega) p hj
      · refine hn f i (by omega) p (ih (i + 1) f (by omega) (by omega) (fun j h => ?_))
        rcases Nat.lt_or_ge j i with z | z
        · exact hj j z
        · have e : j = i := by omega
          rw [e]; exact p
theorem cf_scan0 (W : Nat → Nat → Prop) (P : Nat → Prop) (n : Nat) (hx : ∀ f, (∀ j, j < n → ¬ P j) → W (f + 1) n) (hp : ∀ f i, i < n → P i → (∀ j, j < i → ¬ P j) → W (f + 1) i) (hn : ∀ f i, i < n → ¬ P i → W f (i + 1) → W (f + 1) i) : ∃ f, W f 0 :=
  ⟨n + 1, cf_scan W P n hx hp hn n 0 (n + 1) (by omega) (by omega) (fun j h => absurd h (Nat.not_lt_zero j))⟩
theorem cf_fold {σ : Type} (W : Nat → Nat → σ → Prop) (S : Nat → σ) (n : Nat) (hx : ∀ f, W (f + 1) n (S n)) (hs : ∀ f i, i < n → W f (i + 1) (S (i + 1)) → W (f + 1) i (S i)) : ∀ d i f, i + d = n → d < f → W f i (S i) := by
  intro d
  induction d with
  | zero =>
    intro i f hi hf
    have e : i = n := by omega
    subst e
    cases f with
    | zero => omega
    | succ f => exact hx f
  | succ d ih =>
    intro i f hi hf
    cases f with
    | zero => omega
    | succ f => exact hs f i (by omega) (ih (i + 1) f (by omega) (by omega))
theorem cf_fold0 {σ : Type} (W : Nat → Nat → σ → Prop) (S : Nat → σ) (n : Nat) (hx : ∀ f, W (f + 1) n (S n)) (hs : ∀ f i, i < n → W f (i + 1) (S (i + 1)) → W (f + 1) i (S i)) : ∃ f, W f 0 (S 0) :=
  ⟨n + 1, cf_fold W S n hx hs n 0 (n + 1) (by omega) (by omega)⟩
theorem cf_rd {a : Nat → Int32} {t : Nat → Nat} (hb : ∀ j, a j = nI (t j)) {x : Int32} (i : Nat) (hx : x = nI i := by rfl) (h : i < 2 ^ 31 := by omega) : a x.toNatClampNeg = nI (t i) := by
  rw [pk_cl i hx h]
  exact hb i
