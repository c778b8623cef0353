/-! words by length and number -/
theorem nb_dig {a k : Nat} (ha : 0 < a) (h4 : a ≤ 4) : ∀ n j, j < n → nb a k n / 4 ^ j % 4 = k / a ^ j % a
  | 0, j, h => absurd h (Nat.not_lt_zero _)
  | n + 1, j, h => by
    have hd : k / a ^ n % a < a := Nat.mod_lt _ ha
    show (nb a k n + (k / a ^ n % a) * 4 ^ n) / 4 ^ j % 4 = k / a ^ j % a
    by_cases z : j = n
    · subst z
      rw [Nat.add_mul_div_right _ _ (Nat.pow_pos (by decide)), Nat.div_eq_of_lt (nb_lt ha h4 j), Nat.zero_add]
      exact Nat.mod_eq_of_lt (by omega)
    · have ih := nb_dig (k := k) ha h4 n j (by omega)
      have e : (k / a ^ n % a) * 4 ^ n = (k / a ^ n % a * 4 ^ (n - 1 - j) * 4) * 4 ^ j := by
        rw [Nat.mul_assoc, Nat.mul_assoc, ← Nat.pow_succ', ← Nat.pow_add]
        congr 2
        omega
      rw [e, Nat.add_mul_div_right _ _ (Nat.pow_pos (by decide)), Nat.add_mul_mod_self_right]
      exact ih
def wd (a n k : Nat) : Nat := n * 1048576 + nb a k n
theorem wd_wl {a n k : Nat} (ha : 0 < a) (h4 : a ≤ 4) (hn : n ≤ 9) : wl (wd a n k) = n ∧ wc (wd a n k) = nb a k n := by
  have h1 := nb_lt (k := k) ha h4 n
  have h2 : 4 ^ n ≤ 4 ^ 9 := Nat.pow_le_pow_right (by decide) hn
  unfold wd wl wc
  omega
theorem wd_ok {a n k : Nat} (ha : 0 < a) (h4 : a ≤ 4) (hn : n ≤ 9) : okw a (wd a n k) := by
  obtain ⟨e1, e2⟩ := wd_wl (k := k) ha h4 hn
  refine ⟨by omega, by rw [e1, e2]; exact nb_lt ha h4 n, fun p hp => ?_⟩
  rw [e1] at hp
  rw [lt_wc (by omega) (by omega), e1, e2, show 2 ^ (2 * (n - 1 - p)) = 4 ^ (n - 1 - p) by rw [Nat.pow_mul], nb_dig ha h4 n (n - 1 - p) (by omega)]
  exact Nat.mod_lt _ ha
