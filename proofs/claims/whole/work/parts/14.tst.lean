/-! a trial -/
def rt (up : Nat → Int) (k : Nat) : Nat := if h : (up k).toNat < k then rt up (up k).toNat else k
termination_by k
theorem lg0 (v : V) (l : List V) : lg (v :: l) 0 = v := rfl
theorem sp_t1 (d o : Nat) (st : St) (Q : Rn) (node N : Nat) (hk0 : kl o = 0) (hk1 : kl (o + 1) = 50) (hl1 : len (o + 1) = 120) (hN : st o 9 = N) (hN1 : N ≤ 120) (hup : ∀ k, k < N → 0 ≤ st (o + 1) k ∧ st (o + 1) k ≤ k) (hn : node < N) (hQ : Q (some (.inl (rt (st (o + 1)) node : Int))) st) : MS (d + 1) 163 [some (.inr o), some (.inl (node : Int))] st Q := by
  have key : ∀ (n k : Nat) (j : Int), k ≤ n → k < N → 0 ≤ j → j + k < 120 → rt (st (o + 1)) k = rt (st (o + 1)) node → AW (P 163) Q (MS d) 0 (fun _ => 0) 1 [some (.inr o), some (.inl (node : Int)), some (.inl (k : Int)), some (.inl j)] [] st := by
    intro n
    induction n with
    | zero =>
      intro k j h1 h2 h3 h4 h5
      have : k = 0 := by omega
      subst this
      rw [awu 163 1]
      simp only [awu 163 2, awu 163 3, awu 163 4, awu 163 5, awu 163 6, pe163, xs, i_load, i_loadR, i_inc, lg, lp, hk0, hk1, hl1, hN, true_and]
      trace_state
      sorry
    | succ n ih => sorry
  sorry
