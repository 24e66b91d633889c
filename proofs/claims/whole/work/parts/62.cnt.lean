/-! Counting the corners -/
def q_cS (val : Nat → Nat) (k : Nat) : Nat → Nat
  | 0 => 0
  | N + 1 => q_cS val k N + if val N = k then 1 else 0
def q_sN (g : Nat → Nat) : Nat → Nat
  | 0 => 0
  | n + 1 => q_sN g n + g n
theorem q_sN_add (g h : Nat → Nat) (n : Nat) : q_sN (fun k => g k + h k) n = q_sN g n + q_sN h n := by
  induction n with
  | zero => rfl
  | succ n ih =>
    show q_sN (fun k => g k + h k) n + (g n + h n) = (q_sN g n + g n) + (q_sN h n + h n)
    omega
theorem q_sN_one (v n : Nat) : q_sN (fun k => if v = k then 1 else 0) n ≤ 1 ∧ (n ≤ v → q_sN (fun k => if v = k then 1 else 0) n = 0) := by
  induction n with
  | zero => exact ⟨Nat.zero_le _, fun _ => rfl⟩
  | succ n ih =>
    show q_sN (fun k => if v = k then 1 else 0) n + (if v = n then 1 else 0) ≤ 1 ∧ (n + 1 ≤ v → q_sN (fun k => if v = k then 1 else 0) n + (if v = n then 1 else 0) = 0)
    by_cases c : v = n
    · rw [if_pos c]
      have := ih.2 (by omega)
      exact ⟨by omega, fun w => by omega⟩
    · rw [if_neg c]
      exact ⟨by omega, fun w => by have := ih.2 (by omega); omega⟩
theorem q_tot (val : Nat → Nat) (n N : Nat) : q_sN (fun k => q_cS val k N) n ≤ N := by
  induction N with
  | zero =>
    have : ∀ n, q_sN (fun k => q_cS val k 0) n = 0 := by
      intro n
      induction n with
      | zero => rfl
      | succ n ih =>
        show q_sN (fun k => q_cS val k 0) n + 0 = 0
        omega
    rw [this]; exact Nat.le_refl _
  | succ N ih =>
    have e : q_sN (fun k => q_cS val k (N + 1)) n = q_sN (fun k => q_cS val k N) n + q_sN (fun k => if val N = k then 1 else 0) n := q_sN_add _ _ n
    have := (q_sN_one (val N) n).1
    omega
theorem q_cS_mono (val : Nat → Nat) (k : Nat) {N N' : Nat} (h : N ≤ N') : q_cS val k N ≤ q_cS val k N' := by
  induction h with
  | refl => exact Nat.le_refl _
  | step _ ih => exact Nat.le_trans ih (Nat.le_add_right _ _)
theorem q_cS_pos {val : Nat → Nat} {k N j : Nat} (hj : j < N) (h : val j = k) : 1 ≤ q_cS val k N := by
  have h1 : q_cS val k (j + 1) ≤ q_cS val k N := q_cS_mono val k hj
  have h2 : q_cS val k (j + 1) = q_cS val k j + 1 := by
    show q_cS val k j + (if val j = k then 1 else 0) = _
    rw [if_pos h]
  omega
theorem q_cS_cn {val : Nat → Nat} {k o s : Nat} : ∀ N : Nat, (∀ i, i < N → s / 2 ^ i % 2 = 1 → val (o + i) = k) → q_cS val k o + x_cn s N ≤ q_cS val k (o + N) := by
  intro N
  induction N with
  | zero => intro _; exact Nat.le_refl _
  | succ N ih =>
    intro h
    have := ih (fun i hi => h i (by omega))
    show q_cS val k o + (x_cn s N + s / 2 ^ N % 2) ≤ q_cS val k (o + N) + (if val (o + N) = k then 1 else 0)
    by_cases c : s / 2 ^ N % 2 = 1
    · rw [if_pos (h N (by omega) c)]; omega
    · split <;> omega
theorem q_sN_low {g : Nat → Nat} {G : Nat} : ∀ n : Nat, (∀ k, k < n → 1 ≤ g k) → (0 < n → G ≤ g 0) → n + G ≤ q_sN g n + 1 ∨ n = 0 := by
  intro n
  induction n with
  | zero => intro _ _; exact Or.inr rfl
  | succ n ih =>
    intro h h0
    left
    show n + 1 + G ≤ q_sN g n + g n + 1
    rcases ih (fun k hk => h k (by omega)) (fun w => h0 (by omega)) with w | w
    · have := h n (by omega); omega
    · subst w
      have := h0 (by omega)
      show 0 + 1 + G ≤ 0 + g 0 + 1
      omega
theorem p_ten_ok : p_ten := by
  intro F hF s hs
  have hg := hF.2.2.1
  have hr := hF.2.2.2.1
  have h7 := p_pr_le hF
  obtain ⟨i1, i2⟩ := p_T_inv hF s hs
  generalize hn : (p_T F s).1 = n at *
  generalize hT : (p_T F s).2 = T at *
  by_cases n2 : n < 2
  · omega
  obtain ⟨G, hG⟩ : ∃ G : Nat, F 0 2 = G := ⟨(F 0 2).toNat, by omega⟩
  obtain ⟨R, hR⟩ : ∃ R : Nat, F 0 3 = R := ⟨(F 0 3).toNat, by omega⟩
  have hpr : p_pr F = R + G := by unfold p_pr; omega
  -- tight in a pair
  have bt : ∀ {s' j : Nat}, j < p_pr F → ((p_en F s' 4).toNat / 2 ^ j % 2 = 1 ↔ p_tgt F (p_x (p_C F s') (p_R F s')) (p_b (p_C F s')) j = true) := by
    intro s' j hj
    rw [p_en_4, Int.toNat_natCast]
    unfold p_tS
    rw [x_set_bit _ _ _ hj]
    cases p_tgt F (p_x (p_C F s') (p_R F s')) (p_b (p_C F s')) j <;> simp
  have lo_u : ∀ {j k k' : Nat}, (k < n ∧ (T k 4).toNat / 2 ^ j % 2 = 1 ∧ ∀ i : Nat, i < n → (T i 4).toNat / 2 ^ j % 2 = 1 → k ≤ i) → (k' < n ∧ (T k' 4).toNat / 2 ^ j % 2 = 1 ∧ ∀ i : Nat, i < n → (T i 4).toNat / 2 ^ j % 2 = 1 → k' ≤ i) → k = k' := by
    intro j k k' a b
    have := a.2.2 k' b.1 b.2.1
    have := b.2.2 k a.1 a.2.1
    omega
  have hi_u : ∀ {j k k' : Nat}, (k < n ∧ (T k 4).toNat / 2 ^ j % 2 = 1 ∧ ∀ i : Nat, i < n → (T i 4).toNat / 2 ^ j % 2 = 1 → i ≤ k) → (k' < n ∧ (T k' 4).toNat / 2 ^ j % 2 = 1 ∧ ∀ i : Nat, i < n → (T i 4).toNat / 2 ^ j % 2 = 1 → i ≤ k') → k = k' := by
    intro j k k' a b
    have := a.2.2 k' b.1 b.2.1
    have := b.2.2 k a.1 a.2.1
    omega
  obtain ⟨val, hval⟩ : ∃ val : Nat → Nat, (∀ j k : Nat, j < p_pr F → (k < n ∧ (T k 4).toNat / 2 ^ j % 2 = 1 ∧ ∀ i : Nat, i < n → (T i 4).toNat / 2 ^ j % 2 = 1 → k ≤ i) → val j = k) ∧ ∀ j k : Nat, j < p_pr F → (k < n ∧ (T k 4).toNat / 2 ^ j % 2 = 1 ∧ ∀ i : Nat, i < n → (T i 4).toNat / 2 ^ j % 2 = 1 → i ≤ k) → val (p_pr F + j) = k := by
    refine ⟨fun J => p_if (J < p_pr F) (Classical.epsilon (fun k : Nat => k < n ∧ (T k 4).toNat / 2 ^ J % 2 = 1 ∧ ∀ i : Nat, i < n → (T i 4).toNat / 2 ^ J % 2 = 1 → k ≤ i)) (Classical.epsilon (fun k : Nat => k < n ∧ (T k 4).toNat / 2 ^ (J - p_pr F) % 2 = 1 ∧ ∀ i : Nat, i < n → (T i 4).toNat / 2 ^ (J - p_pr F) % 2 = 1 → i ≤ k)), fun j k hj hk => ?_, fun j k hj hk => ?_⟩
    · dsimp only
      rw [p_if_t hj]
      exact lo_u (Classical.epsilon_spec (p := fun k : Nat => k < n ∧ (T k 4).toNat / 2 ^ j % 2 = 1 ∧ ∀ i : Nat, i < n → (T i 4).toNat / 2 ^ j % 2 = 1 → k ≤ i) ⟨k, hk⟩) hk
    · dsimp only
      rw [p_if_f (by omega), show p_pr F + j - p_pr F = j by omega]
      exact hi_u (Classical.epsilon_spec (p := fun k : Nat => k < n ∧ (T k 4).toNat / 2 ^ j % 2 = 1 ∧ ∀ i : Nat, i < n → (T i 4).toNat / 2 ^ j % 2 = 1 → i ≤ k) ⟨k, hk⟩) hk
  obtain ⟨vlo, vhi⟩ := hval
  -- own pairs
  have own : ∀ {k : Nat} {s' : Nat}, k < n → s' < s → p_ok F s' → T k = p_en F s' → ∀ j, j < p_pr F → s' / 2 ^ j % 2 = 1 → (T k 4).toNat / 2 ^ j % 2 = 1 := by
    intro k s' hk hs' hok e j hj hb
    rw [e, bt hj]
    have hnb := x_nb_cn (s := s') (i := j) (by omega) (by omega) hb
    have hc : (x_cn s' j : Int) < F 0 2 := by
      have h1 : x_cn s' (j + 1) = x_cn s' j + s' / 2 ^ j % 2 := rfl
      have h2 := x_cn_le s' (i := j + 1) (j := 7) (by omega)
      have h3 := hok.1
      omega
    have := (p_own hF (s := s') (by omega) hok.1 (i := (x_cn s' j : Int)) (by omega) hc).2
    rw [Int.toNat_natCast, hnb] at this
    exact this
  -- each is first or last in a pair
  have each : ∀ k, k < n → 1 ≤ q_cS val k (2 * p_pr F) := by
    intro k hk
    obtain ⟨s', a1, a2, a3⟩ := i1 k (by omega) (by omega)
    obtain ⟨i, sg, b1, b2, b3⟩ := p_ext hF (s := s') (by omega) a2
    obtain ⟨o1, o2⟩ := p_own hF (s := s') (by omega) a2.1 (i := (i : Int)) (by omega) b1
    rw [Int.toNat_natCast] at o1 o2
    have tk : (T k 4).toNat / 2 ^ x_nb s' i % 2 = 1 := by rw [a3, bt o1]; exact o2
    have cmp : ∀ i' : Nat, i' < n → (T i' 4).toNat / 2 ^ x_nb s' i % 2 = 1 → 0 ≤ sg * (p_v (T i') * T k 3 - p_v (T k) * T i' 3) := by
      intro i' hi' ti'
      obtain ⟨s'', c1, c2, c3⟩ := i1 i' (by omega) (by omega)
      rw [c3, a3]
      rw [c3, bt o1] at ti'
      exact b3 s'' (by omega) c2 ti'
    rcases b2 with e | e
    · subst e
      refine q_cS_pos (j := x_nb s' i) (by omega) (vlo _ k o1 ⟨hk, tk, fun i' hi' ti' => ?_⟩)
      apply Classical.byContradiction
      intro hlt
      have := i2 i' k (by omega) (by omega) (by omega)
      have := cmp i' hi' ti'
      unfold p_lt at *
      omega
    · subst e
      refine q_cS_pos (j := p_pr F + x_nb s' i) (by omega) (vhi _ k o1 ⟨hk, tk, fun i' hi' ti' => ?_⟩)
      apply Classical.byContradiction
      intro hlt
      have := i2 k i' (by omega) (by omega) (by omega)
      have := cmp i' hi' ti'
      unfold p_lt at *
      omega
  -- the first one
  have first : G ≤ q_cS val 0 (p_pr F) := by
    obtain ⟨s', a1, a2, a3⟩ := i1 0 (by omega) (by omega)
    have e := q_cS_cn (val := val) (k := 0) (o := 0) (s := s') (p_pr F) (fun j hj hb => by
      rw [Nat.zero_add]
      exact vlo j 0 hj ⟨by omega, own (k := 0) (by omega) a1 a2 a3 j hj hb, fun i' _ _ => Nat.zero_le _⟩)
    have h1 := x_cn_hi (s := s') (p := p_pr F) (by omega) (j := 7) (by omega)
    have h2 := a2.1
    rw [Nat.zero_add] at e
    omega
  have last : q_cS val (n - 1) (p_pr F) + G ≤ q_cS val (n - 1) (p_pr F + p_pr F) := by
    obtain ⟨s', a1, a2, a3⟩ := i1 ((n - 1 : Nat) : Int) (by omega) (by omega)
    have e := q_cS_cn (val := val) (k := n - 1) (o := p_pr F) (s := s') (p_pr F) (fun j hj hb => vhi j (n - 1) hj ⟨by omega, own (k := n - 1) (by omega) a1 a2 a3 j hj hb, fun i' hi' _ => by omega⟩)
    have h1 := x_cn_hi (s := s') (p := p_pr F) (by omega) (j := 7) (by omega)
    have h2 := a2.1
    omega
  have tot := q_tot val n (2 * p_pr F)
  have m0 := q_cS_mono val 0 (N := p_pr F) (N' := 2 * p_pr F) (by omega)
  have low := q_sN_low (g := fun k => q_cS val k (2 * p_pr F)) (G := G) (n - 1) (fun k hk => each k (by omega)) (fun _ => by omega)
  have e2 : q_sN (fun k => q_cS val k (2 * p_pr F)) n = q_sN (fun k => q_cS val k (2 * p_pr F)) (n - 1) + q_cS val (n - 1) (2 * p_pr F) := by
    obtain ⟨k, hk⟩ : ∃ k, n = k + 1 := ⟨n - 1, by omega⟩
    rw [hk]
    rfl
  have e3 : p_pr F + p_pr F = 2 * p_pr F := by omega
  rw [e3] at last
  rcases low with w | w
  · omega
  · omega
