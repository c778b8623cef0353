/-! the abstract machine: values (none: not set, or void), states (a number for each place of each cell), instructions as numbers -/
abbrev V := Option (Int ⊕ Nat)
abbrev St := Nat → Nat → Int
abbrev Ai := Nat × Nat × Nat × Nat
abbrev Kn := List V → List V → St → Prop
abbrev Rn := V → St → Prop
abbrev Cn := Nat → List V → St → Rn → Prop
def wr (x : Int) : Int := Int.bmod x 4294967296
def w8 (x : Int) : Int := Int.bmod x 256
def bx (f : Int32 → Int32 → Int32) (x y : Int) : Int := (f (Int32.ofInt x) (Int32.ofInt y)).toInt
def band (x y : Int) : Int := bx (fun a b => a &&& b) x y
def bor (x y : Int) : Int := bx (fun a b => a ||| b) x y
def bshl (x y : Int) : Int := bx (fun a b => a <<< (b &&& 31)) x y
def bshr (x y : Int) : Int := bx (fun a b => a >>> (b &&& 31)) x y
def brem (x y : Int) : Int := wr (x - wr (wr (x.tdiv y) * y))
def upf (f : Nat → Int) (i : Nat) (v : Int) : Nat → Int := fun j => if j = i then v else f j
def up2 (st : St) (k i : Nat) (v : Int) : St := fun j => if j = k then upf (st k) i v else st j
def cpf (f g : Nat → Int) (sp dp n : Nat) : Nat → Int := fun k => if dp ≤ k ∧ k < dp + n then f (sp + (k - dp)) else g k
def up1 (st : St) (k : Nat) (f : Nat → Int) : St := fun j => if j = k then f else st j
def lg : List V → Nat → V
  | [], _ => none
  | v :: _, 0 => v
  | _ :: l, n + 1 => lg l n
def lp : List V → Nat → V → List V
  | [], _, _ => []
  | _ :: l, 0, v => v :: l
  | a :: l, n + 1, v => a :: lp l n v
def pn : Nat → List V → List V → Option (List V × List V)
  | 0, acc, s => some (acc, s)
  | n + 1, acc, v :: s => pn n (v :: acc) s
  | _ + 1, _, [] => none
def bop (t : Nat) (x y : Int) : Int := match t with
  | 17 => wr (x + y)
  | 18 => wr (x - y)
  | 19 => wr (x * y)
  | 20 => wr (x.tdiv y)
  | 21 => brem x y
  | 22 => band x y
  | 23 => bor x y
  | 24 => bshl x y
  | _ => bshr x y
def cnd (t : Nat) (x y : Int) : Prop := match t with
  | 0 => x = y
  | 1 => ¬ x = y
  | 2 => x < y
  | 3 => y ≤ x
  | 4 => y < x
  | _ => x ≤ y
def ok01 (x : Int) : Prop := x = 0 ∨ x = 1
section SEM
variable (J : Nat → Kn) (R : Rn) (C : Cn) (L : Nat) (sx : Nat → Int)
def i_get (k : Kn) (a b : Nat) (ls stk : List V) (st : St) : Prop := match stk with
  | some (.inr o) :: s => kl o = a ∧ k ls (some (.inl (st o b)) :: s) st
  | _ => False
def i_getR (k : Kn) (a b : Nat) (ls stk : List V) (st : St) : Prop := match stk with
  | some (.inr o) :: s => kl o = a ∧ k ls (some (.inr (o + b)) :: s) st
  | _ => False
def i_put (k : Kn) (a b : Nat) (ls stk : List V) (st : St) : Prop := match stk with
  | some (.inl v) :: some (.inr o) :: s => kl o = a ∧ k ls s (up2 st o b v)
  | _ => False
def i_putZ (k : Kn) (a b : Nat) (ls stk : List V) (st : St) : Prop := match stk with
  | some (.inl v) :: some (.inr o) :: s => kl o = a ∧ ok01 v ∧ k ls s (up2 st o b v)
  | _ => False
def i_ald (k : Kn) (ty : Nat) (ls stk : List V) (st : St) : Prop := match stk with
  | some (.inl i) :: some (.inr o) :: s => kl o = ty ∧ (0 ≤ i ∧ i < len o) ∧ k ls (some (.inl (st o i.toNat)) :: s) st
  | _ => False
def i_ast (k : Kn) (ls stk : List V) (st : St) : Prop := match stk with
  | some (.inl v) :: some (.inl i) :: some (.inr o) :: s => kl o = 50 ∧ (0 ≤ i ∧ i < len o) ∧ k ls s (up2 st o i.toNat v)
  | _ => False
def i_astB (k : Kn) (ls stk : List V) (st : St) : Prop := match stk with
  | some (.inl v) :: some (.inl i) :: some (.inr o) :: s => kl o = 51 ∧ (0 ≤ i ∧ i < len o) ∧ k ls s (up2 st o i.toNat (w8 v))
  | _ => False
def i_astZ (k : Kn) (ls stk : List V) (st : St) : Prop := match stk with
  | some (.inl v) :: some (.inl i) :: some (.inr o) :: s => kl o = 52 ∧ (0 ≤ i ∧ i < len o) ∧ ok01 v ∧ k ls s (up2 st o i.toNat v)
  | _ => False
def i_alen (k : Kn) (ls stk : List V) (st : St) : Prop := match stk with
  | some (.inr o) :: s => (kl o = 50 ∨ kl o = 51 ∨ kl o = 52) ∧ k ls (some (.inl (len o)) :: s) st
  | _ => False
def i_bin (k : Kn) (t : Nat) (ls stk : List V) (st : St) : Prop := match stk with
  | some (.inl y) :: some (.inl x) :: s => k ls (some (.inl (bop t x y)) :: s) st
  | _ => False
def i_div (k : Kn) (t : Nat) (ls stk : List V) (st : St) : Prop := match stk with
  | some (.inl y) :: some (.inl x) :: s => ¬ y = 0 ∧ k ls (some (.inl (bop t x y)) :: s) st
  | _ => False
def i_i2b (k : Kn) (ls stk : List V) (st : St) : Prop := match stk with
  | some (.inl x) :: s => k ls (some (.inl (w8 x)) :: s) st
  | _ => False
def i_load (k : Kn) (a : Nat) (ls stk : List V) (st : St) : Prop := match lg ls a with
  | some (.inl x) => k ls (some (.inl x) :: stk) st
  | _ => False
def i_loadR (k : Kn) (a : Nat) (ls stk : List V) (st : St) : Prop := match lg ls a with
  | some (.inr x) => k ls (some (.inr x) :: stk) st
  | _ => False
def i_store (k : Kn) (a : Nat) (ls stk : List V) (st : St) : Prop := match stk with
  | some (.inl x) :: s => k (lp ls a (some (.inl x))) s st
  | _ => False
def i_storeR (k : Kn) (a : Nat) (ls stk : List V) (st : St) : Prop := match stk with
  | some (.inr x) :: s => k (lp ls a (some (.inr x))) s st
  | _ => False
def i_sld (k : Kn) (ls stk : List V) (st : St) : Prop := match stk with
  | some (.inl i) :: some (.inr o) :: s => o = 500 ∧ (0 ≤ i ∧ i + 1 < L) ∧ k ls (some (.inl (sx i.toNat)) :: s) st
  | _ => False
def i_sln (k : Kn) (ls stk : List V) (st : St) : Prop := match stk with
  | some (.inr o) :: s => o = 500 ∧ 0 < L ∧ k ls (some (.inl ((L : Int) - 1)) :: s) st
  | _ => False
def i_inc (k : Kn) (a : Nat) (n : Int) (ls stk : List V) (st : St) : Prop := match lg ls a with
  | some (.inl x) => k (lp ls a (some (.inl (wr (x + n))))) stk st
  | _ => False
def i_dup (k : Kn) (ls stk : List V) (st : St) : Prop := match stk with
  | some v :: s => k ls (some v :: some v :: s) st
  | _ => False
def i_pop (k : Kn) (ls stk : List V) (st : St) : Prop := match stk with
  | some _ :: s => k ls s st
  | _ => False
def i_dup2 (k : Kn) (ls stk : List V) (st : St) : Prop := match stk with
  | some v :: some w :: s => k ls (some v :: some w :: some v :: some w :: s) st
  | _ => False
def i_call (k : Kn) (a n : Nat) (ls stk : List V) (st : St) : Prop := match pn n [] stk with
  | some (as, s) => s.length ≤ 8 ∧ C a as st (fun v st' => match v with | none => k ls s st' | some _ => False)
  | none => False
def i_callI (k : Kn) (a n : Nat) (ls stk : List V) (st : St) : Prop := match pn n [] stk with
  | some (as, s) => s.length ≤ 8 ∧ C a as st (fun v st' => match v with | some x => k ls (some x :: s) st' | none => False)
  | none => False
def i_min (k : Kn) (ls stk : List V) (st : St) : Prop := match stk with
  | some (.inl y) :: some (.inl x) :: s => s.length ≤ 8 ∧ k ls (some (.inl (if x ≤ y then x else y)) :: s) st
  | _ => False
def i_max (k : Kn) (ls stk : List V) (st : St) : Prop := match stk with
  | some (.inl y) :: some (.inl x) :: s => s.length ≤ 8 ∧ k ls (some (.inl (if y ≤ x then x else y)) :: s) st
  | _ => False
def i_copy (k : Kn) (ls stk : List V) (st : St) : Prop := match stk with
  | some (.inl n) :: some (.inl dp) :: some (.inr d) :: some (.inl sp) :: some (.inr o) :: s => s.length ≤ 8 ∧ ¬ o = d ∧ kl o = 50 ∧ kl d = 50 ∧ (0 ≤ n ∧ 0 ≤ dp ∧ 0 ≤ sp ∧ sp + n ≤ len o ∧ dp + n ≤ len d) ∧ k ls s (up1 st d (cpf (st o) (st d) sp.toNat dp.toNat n.toNat))
  | _ => False
def s1 (t a b : Nat) (k : Kn) (ls stk : List V) (st : St) : Prop := match t with
  | 0 => k ls (some (.inl (a : Int)) :: stk) st
  | 1 => k ls (some (.inl (-(a : Int))) :: stk) st
  | 2 => i_load k a ls stk st
  | 3 => i_store k a ls stk st
  | 4 => i_inc k a b ls stk st
  | 5 => i_inc k a (-(b : Int)) ls stk st
  | 6 => i_get k a b ls stk st
  | 7 => i_getR k a b ls stk st
  | 8 => i_put k a b ls stk st
  | 9 => i_putZ k a b ls stk st
  | 10 => i_ald k 50 ls stk st
  | 11 => i_ald k 51 ls stk st
  | 15 => i_ald k 52 ls stk st
  | 12 => i_ast k ls stk st
  | 13 => i_astB k ls stk st
  | 14 => i_astZ k ls stk st
  | 16 => i_alen k ls stk st
  | 20 => i_div k 20 ls stk st
  | 21 => i_div k 21 ls stk st
  | 17 => i_bin k 17 ls stk st
  | 18 => i_bin k 18 ls stk st
  | 19 => i_bin k 19 ls stk st
  | 22 => i_bin k 22 ls stk st
  | 23 => i_bin k 23 ls stk st
  | 24 => i_bin k 24 ls stk st
  | 25 => i_bin k 25 ls stk st
  | 26 => i_i2b k ls stk st
  | 27 => i_dup k ls stk st
  | 28 => i_pop k ls stk st
  | 29 => i_dup2 k ls stk st
  | 30 => i_call C k a b ls stk st
  | 31 => i_callI C k a b ls stk st
  | 32 => i_min k ls stk st
  | 33 => i_max k ls stk st
  | 34 => i_copy k ls stk st
  | 35 => i_sld L sx k ls stk st
  | 36 => i_sln L k ls stk st
  | 37 => i_loadR k a ls stk st
  | 38 => i_storeR k a ls stk st
  | _ => False
def t_cmp (t a b : Nat) (ls stk : List V) (st : St) : Prop := match stk with
  | some (.inl y) :: some (.inl x) :: s => (cnd t x y → J a ls s st) ∧ (¬ cnd t x y → J b ls s st)
  | _ => False
def t_if (t a b : Nat) (ls stk : List V) (st : St) : Prop := match stk with
  | some (.inl x) :: s => (cnd t x 0 → J a ls s st) ∧ (¬ cnd t x 0 → J b ls s st)
  | _ => False
def t_sw (x : Int) (d : Nat) (ls s : List V) (st : St) : List Ai → Prop
  | [] => J d ls s st
  | (key, tgt, _, _) :: r => (x = (key : Int) → J tgt ls s st) ∧ (¬ x = (key : Int) → t_sw x d ls s st r)
def tm (t a b : Nat) (r : List Ai) (ls stk : List V) (st : St) : Prop := match t with
  | 50 => J a ls stk st
  | 51 => J a ls stk st
  | 52 => t_cmp J 0 a b ls stk st
  | 53 => t_cmp J 1 a b ls stk st
  | 54 => t_cmp J 2 a b ls stk st
  | 55 => t_cmp J 3 a b ls stk st
  | 56 => t_cmp J 4 a b ls stk st
  | 57 => t_cmp J 5 a b ls stk st
  | 58 => t_if J 0 a b ls stk st
  | 59 => t_if J 1 a b ls stk st
  | 60 => t_if J 2 a b ls stk st
  | 61 => t_if J 3 a b ls stk st
  | 62 => t_if J 4 a b ls stk st
  | 63 => t_if J 5 a b ls stk st
  | 64 => match stk with | [some (.inl x)] => R (some (.inl x)) st | _ => False
  | 65 => match stk with | [some (.inl x)] => ok01 x ∧ R (some (.inl x)) st | _ => False
  | 66 => match stk with | [some (.inr x)] => R (some (.inr x)) st | _ => False
  | 67 => match stk with | [] => R none st | _ => False
  | 68 => match stk with | some (.inl x) :: s => t_sw J x a ls s st r | _ => False
  | _ => False
def ex : List Ai → Kn
  | [], _, _, _ => False
  | (t, a, b, _) :: r, ls, stk, st => if t < 50 then s1 C L sx t a b (ex r) ls stk st else tm J R t a b r ls stk st
end SEM
section MONO
variable {J J' : Nat → Kn} {R R' : Rn} {C C' : Cn} {L : Nat} {sx : Nat → Int}
theorem s1_mono (hC : ∀ k a st Q Q', (∀ v t, Q v t → Q' v t) → C k a st Q → C' k a st Q') {k k' : Kn} (hk : ∀ ls stk st, k ls stk st → k' ls stk st) (t a b : Nat) (ls stk : List V) (st : St) (h : s1 C L sx t a b k ls stk st) : s1 C' L sx t a b k' ls stk st := by
  unfold s1 at h ⊢
  split at h <;> first
    | exact hk _ _ _ h
    | (simp only [i_load, i_loadR, i_store, i_storeR, i_inc, i_get, i_getR, i_put, i_putZ, i_ald, i_ast, i_astB, i_astZ, i_alen, i_bin, i_div, i_i2b, i_dup, i_pop, i_dup2, i_min, i_max, i_copy, i_sld, i_sln] at h ⊢
       split at h <;> first
         | exact hk _ _ _ h
         | exact h.elim
         | exact ⟨h.1, hk _ _ _ h.2⟩
         | exact ⟨h.1, h.2.1, hk _ _ _ h.2.2⟩
         | exact ⟨h.1, h.2.1, h.2.2.1, hk _ _ _ h.2.2.2⟩
         | exact ⟨h.1, h.2.1, h.2.2.1, h.2.2.2.1, h.2.2.2.2.1, hk _ _ _ h.2.2.2.2.2⟩)
    | (simp only [i_call] at h ⊢
       split at h
       · refine ⟨h.1, hC _ _ _ _ _ ?_ h.2⟩
         intro v t hv
         split at hv
         · exact hk _ _ _ hv
         · exact hv
       · exact h)
    | (simp only [i_callI] at h ⊢
       split at h
       · refine ⟨h.1, hC _ _ _ _ _ ?_ h.2⟩
         intro v t hv
         split at hv
         · exact hk _ _ _ hv
         · exact hv
       · exact h)
    | exact h
theorem sw_mono (hJ : ∀ b ls stk st, J b ls stk st → J' b ls stk st) (x : Int) (d : Nat) (ls s : List V) (st : St) : ∀ r, t_sw J x d ls s st r → t_sw J' x d ls s st r
  | [], h => hJ _ _ _ _ h
  | (_, _, _, _) :: r, h => ⟨fun e => hJ _ _ _ _ (h.1 e), fun e => sw_mono hJ x d ls s st r (h.2 e)⟩
theorem tm_mono (hJ : ∀ b ls stk st, J b ls stk st → J' b ls stk st) (hR : ∀ v st, R v st → R' v st) (t a b : Nat) (r : List Ai) (ls stk : List V) (st : St) (h : tm J R t a b r ls stk st) : tm J' R' t a b r ls stk st := by
  unfold tm at h ⊢
  split at h <;> first
    | exact hJ _ _ _ _ h
    | (simp only [t_cmp, t_if] at h ⊢
       split at h <;> first
         | exact ⟨fun e => hJ _ _ _ _ (h.1 e), fun e => hJ _ _ _ _ (h.2 e)⟩
         | exact h)
    | (split at h <;> first
         | exact hR _ _ h
         | exact ⟨h.1, hR _ _ h.2⟩
         | exact sw_mono hJ _ _ _ _ _ _ h
         | exact h)
    | exact h
theorem ex_mono (hJ : ∀ b ls stk st, J b ls stk st → J' b ls stk st) (hR : ∀ v st, R v st → R' v st) (hC : ∀ k a st Q Q', (∀ v t, Q v t → Q' v t) → C k a st Q → C' k a st Q') : ∀ is ls stk st, ex J R C L sx is ls stk st → ex J' R' C' L sx is ls stk st
  | [], _, _, _, h => h
  | (t, a, b, _) :: r, ls, stk, st, h => by
    unfold ex at h ⊢
    split at h
    · rename_i ht
      rw [if_pos ht]
      exact s1_mono hC (ex_mono hJ hR hC r) _ _ _ _ _ _ h
    · rename_i ht
      rw [if_neg ht]
      exact tm_mono hJ hR _ _ _ _ _ _ _ h
end MONO
/-- from this block on it comes to an end, with R -/
def AW (B : Nat → List Ai) (R : Rn) (C : Cn) (L : Nat) (sx : Nat → Int) (b : Nat) (ls stk : List V) (st : St) : Prop :=
  ∀ X : Nat → Kn, (∀ b ls stk st, ex X R C L sx (B b) ls stk st → X b ls stk st) → X b ls stk st
def Cm (C : Cn) : Prop := ∀ k a st Q Q', (∀ v t, Q v t → Q' v t) → C k a st Q → C k a st Q'
theorem AW.step {B : Nat → List Ai} {R : Rn} {C : Cn} {L : Nat} {sx : Nat → Int} {b : Nat} {ls stk : List V} {st : St} (hC : Cm C) (h : ex (AW B R C L sx) R C L sx (B b) ls stk st) : AW B R C L sx b ls stk st := by
  intro X hX
  exact hX _ _ _ _ (ex_mono (fun b ls stk st h => h X hX) (fun _ _ h => h) hC _ _ _ _ h)
theorem AW.mono {B : Nat → List Ai} {R R' : Rn} {C C' : Cn} {L : Nat} {sx : Nat → Int} {b : Nat} {ls stk : List V} {st : St} (hR : ∀ v st, R v st → R' v st) (hC : ∀ k a st Q Q', (∀ v t, Q v t → Q' v t) → C k a st Q → C' k a st Q') (h : AW B R C L sx b ls stk st) : AW B R' C' L sx b ls stk st := by
  intro X hX
  exact h X (fun b ls stk st h => hX _ _ _ _ (ex_mono (fun _ _ _ _ h => h) hR hC _ _ _ _ h))
