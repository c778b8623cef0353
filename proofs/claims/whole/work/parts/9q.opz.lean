/-! teach: what comes of it -/
def TR (a : Nat) (M : MC) (x : Nat) : Nat → Nat → Nat → TE → TN → List Dd → FS → TE → TN → List Dd → FS → Prop
  | 0, _, _, _, _, _, _, _, _, _, _ => False
  | f + 1, n, k, ex, tn, D, F, ex', tn', D', F' =>
    (x < n ∧ ex' = ex ∧ tn' = tn ∧ D' = D ∧ F' = F)
    ∨ (n ≤ x ∧ a ^ n ≤ k ∧ TR a M x f (n + 1) 0 ex tn D F ex' tn' D' F')
    ∨ (n ≤ x ∧ k < a ^ n ∧ (∃ i, i < ex.1 ∧ ex.2.1 i = wd a n k) ∧ TR a M x f n (k + 1) ex tn D F ex' tn' D' F')
    ∨ (n ≤ x ∧ k < a ^ n ∧ (∀ i, i < ex.1 → ex.2.1 i ≠ wd a n k) ∧ ∃ (r : Int) (ex1 : TE) (tn1 : TN) (D1 : List Dd) (F1 : FS), AE a ex tn D F (wd a n k) (if acc M (wd a n k) then 1 else 0) r ex1 tn1 D1 F1 ∧ ((r < 0 ∧ ex' = ex1 ∧ tn' = tn1 ∧ D' = D1 ∧ F' = F1) ∨ (0 ≤ r ∧ TR a M x f n (k + 1) ex1 tn1 D1 F1 ex' tn' D' F')))
theorem AE_c {a : Nat} {ex ex' : TE} {tn tn' : TN} {D D' : List Dd} {F F' : FS} {w : Nat} {b r : Int} (hno : ∀ i, i < ex.1 → ex.2.1 i ≠ w) (h : AE a ex tn D F w b r ex' tn' D' F') : (r < 0 → ex' = ex) ∧ (0 ≤ r → ex'.1 = ex.1 + 1) := by
  rcases h with ⟨⟨p, h1, h2, _⟩, _⟩ | ⟨_, _, rfl, rfl, _⟩ | ⟨_, _, _, rfl, rfl, _⟩ | ⟨_, _, _, ⟨p, _, rfl⟩, _, _, _, _, rfl⟩
  · exact absurd h2 (hno p h1)
  · exact ⟨fun _ => rfl, fun h => by omega⟩
  · exact ⟨fun _ => rfl, fun h => by omega⟩
  · exact ⟨fun h => by omega, fun _ => rfl⟩
theorem TR_P {a x : Nat} {M M1 M2 M3 : MC} {tp : Nat × (Nat → Int)} {L : List Nat} {t : Nat} : ∀ (f n k : Nat) {ex ex' : TE} {tn tn' : TN} {D D' : List Dd} {F F' : FS}, TR a M x f n k ex tn D F ex' tn' D' F' → Pur tp a ex tn D F M1 M2 M3 L t → Pur tp a ex' tn' D' F' M1 M2 M3 L t := by
  intro f
  induction f with
  | zero => intro n k ex ex' tn tn' D D' F F' h _; exact h.elim
  | succ f ih =>
    intro n k ex ex' tn tn' D D' F F' h p
    rcases h with ⟨_, rfl, rfl, rfl, rfl⟩ | ⟨_, _, h⟩ | ⟨_, _, _, h⟩ | ⟨_, _, _, r, ex1, tn1, D1, F1, h1, ⟨_, rfl, rfl, rfl, rfl⟩ | ⟨_, h⟩⟩
    · exact p
    · exact ih _ _ h p
    · exact ih _ _ h p
    · exact AE_P p h1
    · exact ih _ _ h (AE_P p h1)
