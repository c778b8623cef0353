/-! constructors: what they make -/
abbrev CTt := Nat × List Nat × List (Nat × Nat × Int)
def stw (z : St) : List (Nat × Nat × Int) → St
  | [] => z
  | (o, i, v) :: r => up2 (stw z r) o i v
def newOK (nO : Nat) (S : CTt) : Bool := decide (S.1 < nO) && S.2.1.all (fun t => decide (t < S.1)) && S.2.2.all (fun q => decide (q.1 < S.1))
def cStep (nO : Nat) (call : Nat → List V → CTt → Option CTt) (t a b : Nat) (ls stk : List V) (S : CTt) : Option (List V × CTt) := match t with
  | 0 => some (some (.inl (a : Int)) :: stk, S)
  | 1 => some (some (.inl (-(a : Int))) :: stk, S)
  | 2 => match lg ls a with
    | some (.inl x) => some (some (.inl x) :: stk, S)
    | _ => none
  | 37 => match lg ls a with
    | some (.inr o) => some (some (.inr o) :: stk, S)
    | _ => none
  | 27 => match stk with
    | some v :: s => some (some v :: some v :: s, S)
    | _ => none
  | 33 => match stk with
    | some (.inl y) :: some (.inl x) :: s => if s.length ≤ 8 ∧ (0 ≤ x ∧ x ≤ 100000) ∧ 0 ≤ y ∧ y ≤ 100000 then some (some (.inl (if y ≤ x then x else y)) :: s, S) else none
    | _ => none
  | 19 => match stk with
    | some (.inl y) :: some (.inl x) :: s => some (some (.inl (x * y)) :: s, S)
    | _ => none
  | 40 => match stk with
    | some (.inr _) :: s => if s.length ≤ 8 then some (s, S) else none
    | _ => none
  | 41 => if newOK nO S = true ∧ kl S.1 = a ∧ a < 13 then some (some (.inr S.1) :: stk, (S.1 + 1, S.2)) else none
  | 42 => match stk with
    | some (.inl x) :: s => if newOK nO S = true ∧ kl S.1 = a ∧ ¬ a < 13 ∧ x = (len S.1 : Int) ∧ len S.1 ≤ 100000 then some (some (.inr S.1) :: s, (S.1 + 1, S.2)) else none
    | _ => none
  | 43 => match stk with
    | some (.inr t) :: some (.inr o) :: s => if kl o = a ∧ b < nf a ∧ fk a b ≠ 0 ∧ o + fk a b = t ∧ o < S.1 ∧ a < 13 then some (s, (S.1, t :: S.2.1, S.2.2)) else none
    | _ => none
  | 44 => match stk with
    | some (.inl v) :: some (.inr o) :: s => if kl o = a ∧ b < nf a ∧ fk a b = 0 ∧ o < S.1 ∧ a < 13 then some (s, (S.1, S.2.1, (o, b, v) :: S.2.2)) else none
    | _ => none
  | 45 => match pn b [] stk with
    | some (as, s) => if s.length ≤ 8 then (match call a as S with
      | some S' => some (s, S')
      | none => none) else none
    | none => none
  | _ => none
def cRun (nO : Nat) (call : Nat → List V → CTt → Option CTt) : List Ai → List V → List V → CTt → Option CTt
  | [], _, _, _ => none
  | (t, a, b, _) :: r, ls, stk, S => if t = 46 then (if stk.isEmpty = true then some S else none) else match cStep nO call t a b ls stk S with
    | some q => cRun nO call r ls q.1 q.2
    | none => none
def asOK (k : Nat) (as : List V) : Bool := decide (k < 10) && decide (as.length = lI k) && as.all Option.isSome && (match as with
  | some (.inr _) :: _ => true
  | _ => false)
def cCall (nO : Nat) : Nat → Nat → List V → CTt → Option CTt
  | 0, _, _, _ => none
  | d + 1, k, as, S => if asOK k as = true then cRun nO (cCall nO d) (iB k) as [] S else none
/-! the count only grows -/
def cGr (call : Nat → List V → CTt → Option CTt) (nO : Nat) : Prop := ∀ k as S S', call k as S = some S' → S.1 ≤ nO → S.1 ≤ S'.1 ∧ S'.1 ≤ nO
theorem newOK_q {nO : Nat} {S : CTt} (h : newOK nO S = true) : S.1 < nO ∧ (∀ t ∈ S.2.1, t < S.1) ∧ ∀ q ∈ S.2.2, q.1 < S.1 := by
  unfold newOK at h
  rw [Bool.and_eq_true, Bool.and_eq_true, decide_eq_true_eq] at h
  exact ⟨h.1.1, fun t ht => of_decide_eq_true (List.all_eq_true.mp h.1.2 t ht), fun q hq => of_decide_eq_true (List.all_eq_true.mp h.2 q hq)⟩
theorem cStep_gr {nO : Nat} {call : Nat → List V → CTt → Option CTt} (hc : cGr call nO) {t a b : Nat} {ls stk stk' : List V} {S S' : CTt} (h : cStep nO call t a b ls stk S = some (stk', S')) (hn : S.1 ≤ nO) : S.1 ≤ S'.1 ∧ S'.1 ≤ nO := by
  unfold cStep at h
  split at h
  · cases h; exact ⟨Nat.le_refl _, hn⟩
  · cases h; exact ⟨Nat.le_refl _, hn⟩
  · split at h
    · cases h; exact ⟨Nat.le_refl _, hn⟩
    · cases h
  · split at h
    · cases h; exact ⟨Nat.le_refl _, hn⟩
    · cases h
  · split at h
    · cases h; exact ⟨Nat.le_refl _, hn⟩
    · cases h
  · split at h
    · split at h
      · cases h; exact ⟨Nat.le_refl _, hn⟩
      · cases h
    · cases h
  · split at h
    · cases h; exact ⟨Nat.le_refl _, hn⟩
    · cases h
  · split at h
    · split at h
      · cases h; exact ⟨Nat.le_refl _, hn⟩
      · cases h
    · cases h
  · split at h
    · rename_i hh
      have := (newOK_q hh.1).1
      cases h
      exact ⟨Nat.le_succ _, this⟩
    · cases h
  · split at h
    · split at h
      · rename_i hh
        have := (newOK_q hh.1).1
        cases h
        exact ⟨Nat.le_succ _, this⟩
      · cases h
    · cases h
  · split at h
    · split at h
      · cases h; exact ⟨Nat.le_refl _, hn⟩
      · cases h
    · cases h
  · split at h
    · split at h
      · cases h; exact ⟨Nat.le_refl _, hn⟩
      · cases h
    · cases h
  · split at h
    · split at h
      · split at h
        · rename_i hq
          cases h
          exact hc _ _ _ _ hq hn
        · cases h
      · cases h
    · cases h
  · cases h
theorem cRun_gr {nO : Nat} {call : Nat → List V → CTt → Option CTt} (hc : cGr call nO) : ∀ (is : List Ai) (ls stk : List V) (S S' : CTt), cRun nO call is ls stk S = some S' → S.1 ≤ nO → S.1 ≤ S'.1 ∧ S'.1 ≤ nO
  | [], _, _, _, _, h, _ => by cases h
  | (t, a, b, d) :: r, ls, stk, S, S', h, hn => by
    unfold cRun at h
    split at h
    · split at h
      · cases h; exact ⟨Nat.le_refl _, hn⟩
      · cases h
    · split at h
      · rename_i q hq
        have h1 := cStep_gr hc (stk' := q.1) (S' := q.2) hq hn
        have h2 := cRun_gr hc r ls q.1 q.2 S' h h1.2
        exact ⟨Nat.le_trans h1.1 h2.1, h2.2⟩
      · cases h
theorem cCall_gr {nO : Nat} : ∀ d, cGr (cCall nO d) nO
  | 0 => fun _ _ _ _ h _ => by cases h
  | d + 1 => fun k as S S' h hn => by
    unfold cCall at h
    split at h
    · exact cRun_gr (cCall_gr d) _ _ _ _ _ h hn
    · cases h
def szc (k : Nat) : Nat := if kl k < 13 then nf (kl k) else len k
def SL : Nat → Nat
  | 0 => 0
  | n + 1 => SL n + szc n
theorem SL_le {m : Nat} : ∀ {n : Nat}, m ≤ n → SL m ≤ SL n
  | 0, h => by rw [show m = 0 by omega]; exact Nat.le_refl _
  | n + 1, h => by
    by_cases z : m = n + 1
    · rw [z]; exact Nat.le_refl _
    · exact Nat.le_trans (SL_le (show m ≤ n by omega)) (Nat.le_add_right _ _)
/-! the cells on the way -/
section CTW
variable (ad : Nat → Nat) (cA : Nat → ClassId)
def fvu (X : List Nat) (st : St) (k : Nat) : List Value := (List.range (nf (kl k))).map (fun j => if fk (kl k) j = 0 then .int (oI (st k j)) else if (k + fk (kl k) j) ∈ X then .ref (ad (k + fk (kl k) j)) else .null)
def ceu (X : List Nat) (st : St) (k : Nat) : va_E := if kl k < 13 then .inr (kl k, fvu ad X st k) else .inl (cA (kl k), len k, .inl (fun i => oI (st k i)))
def wsU (n : Nat) (X : List Nat) (st : St) : va_W := (List.range n).map (fun k => (ad k, ceu ad cA X st k))
theorem wsU_get {n k : Nat} {X : List Nat} {st : St} (h : k < n) : (wsU ad cA n X st)[k]? = some (ad k, ceu ad cA X st k) := by
  unfold wsU
  rw [List.getElem?_map, List.getElem?_range h]
  rfl
theorem wsU_len {n : Nat} {X : List Nat} {st : St} : (wsU ad cA n X st).length = n := by unfold wsU; simp
theorem wsU_push {n : Nat} {X : List Nat} {st : St} : wsU ad cA (n + 1) X st = wsU ad cA n X st ++ [(ad n, ceu ad cA X st n)] := by
  unfold wsU
  rw [List.range_succ, List.map_append]
  rfl
theorem wsU_set {n o : Nat} {X X' : List Nat} {st st' : St} (h : ∀ k, k < n → k ≠ o → ceu ad cA X' st' k = ceu ad cA X st k) : wsU ad cA n X' st' = (wsU ad cA n X st).set o (ad o, ceu ad cA X' st' o) := by
  apply List.ext_getElem?
  intro i
  by_cases hi : i < n
  · rw [wsU_get ad cA hi]
    by_cases ho : o = i
    · subst ho
      rw [List.getElem?_set_self (by rw [wsU_len]; exact hi)]
    · rw [List.getElem?_set_ne ho, wsU_get ad cA hi, h i hi (fun e => ho e.symm)]
  · rw [List.getElem?_eq_none (by rw [wsU_len]; omega), List.getElem?_eq_none (by rw [List.length_set, wsU_len]; omega)]
theorem fvu_get {X : List Nat} {st : St} {k j : Nat} (h : j < nf (kl k)) : (fvu ad X st k)[j]? = some (if fk (kl k) j = 0 then .int (oI (st k j)) else if (k + fk (kl k) j) ∈ X then .ref (ad (k + fk (kl k) j)) else .null) := by
  unfold fvu
  rw [List.getElem?_map, List.getElem?_range h]
  rfl
theorem fvu_len {X : List Nat} {st : St} {k : Nat} : (fvu ad X st k).length = nf (kl k) := by unfold fvu; simp
theorem fvu_congr {X X' : List Nat} {st st' : St} {k : Nat} (h1 : ∀ j, j < nf (kl k) → fk (kl k) j = 0 → st' k j = st k j) (h2 : ∀ j, j < nf (kl k) → fk (kl k) j ≠ 0 → ((k + fk (kl k) j) ∈ X' ↔ (k + fk (kl k) j) ∈ X)) : fvu ad X' st' k = fvu ad X st k := by
  apply List.ext_getElem?
  intro j
  by_cases hj : j < nf (kl k)
  · rw [fvu_get ad hj, fvu_get ad hj]
    by_cases z : fk (kl k) j = 0
    · rw [if_pos z, if_pos z, h1 j hj z]
    · rw [if_neg z, if_neg z]
      by_cases y : (k + fk (kl k) j) ∈ X
      · rw [if_pos y, if_pos ((h2 j hj z).mpr y)]
      · rw [if_neg y, if_neg (fun y' => y ((h2 j hj z).mp y'))]
  · rw [List.getElem?_eq_none (by rw [fvu_len]; omega), List.getElem?_eq_none (by rw [fvu_len]; omega)]
theorem ceu_obj {X : List Nat} {st : St} {k : Nat} (h : kl k < 13) : ceu ad cA X st k = .inr (kl k, fvu ad X st k) := by unfold ceu; rw [if_pos h]
theorem ceu_arr {X : List Nat} {st : St} {k : Nat} (h : ¬ kl k < 13) : ceu ad cA X st k = .inl (cA (kl k), len k, .inl (fun i => oI (st k i))) := by unfold ceu; rw [if_neg h]
def tgOK : Bool := (List.range 146).all (fun k => (List.range (nf (kl k))).all (fun j => decide (fk (kl k) j = 0) || decide (parL.getD (k + fk (kl k) j) (0, 0) = (k, j))))
theorem tg_ok : tgOK = true := by decide +kernel
theorem tg_par {k j : Nat} (hk : k < 146) (hj : j < nf (kl k)) (hf : fk (kl k) j ≠ 0) : parL.getD (k + fk (kl k) j) (0, 0) = (k, j) := by
  have h1 := List.all_eq_true.mp (List.all_eq_true.mp tg_ok k (List.mem_range.mpr hk)) j (List.mem_range.mpr hj)
  rw [Bool.or_eq_true, decide_eq_true_eq, decide_eq_true_eq] at h1
  exact h1.resolve_left hf
theorem tg_inj {k j k' j' : Nat} (hk : k < 146) (hj : j < nf (kl k)) (hf : fk (kl k) j ≠ 0) (hk' : k' < 146) (hj' : j' < nf (kl k')) (hf' : fk (kl k') j' ≠ 0) (e : k + fk (kl k) j = k' + fk (kl k') j') : k = k' ∧ j = j' := by
  have h1 := tg_par hk hj hf
  have h2 := tg_par hk' hj' hf'
  rw [e, h2] at h1
  cases h1
  exact ⟨rfl, rfl⟩
theorem wsU_putR {n o j : Nat} {X : List Nat} {st : St} (hn : n ≤ 146) (ho : o < n) (h13 : kl o < 13) (hj : j < nf (kl o)) (hf : fk (kl o) j ≠ 0) : (wsU ad cA n X st).set o (ad o, .inr (kl o, (fvu ad X st o).set j (.ref (ad (o + fk (kl o) j))))) = wsU ad cA n ((o + fk (kl o) j) :: X) st := by
  have hne : ∀ k i, k < n → i < nf (kl k) → fk (kl k) i ≠ 0 → ¬ (k = o ∧ i = j) → k + fk (kl k) i ≠ o + fk (kl o) j := fun k i hk hi hfi hx e => hx (tg_inj (by omega) hi hfi (by omega) hj hf e)
  rw [wsU_set ad cA (o := o) (X := X) (st := st) (X' := (o + fk (kl o) j) :: X) (st' := st) (fun k hk hko => ?_), ceu_obj ad cA h13]
  · congr 4
    apply List.ext_getElem?
    intro i
    by_cases hi : i < nf (kl o)
    · rw [fvu_get ad hi]
      by_cases hij : j = i
      · subst hij
        rw [List.getElem?_set_self (by rw [fvu_len]; exact hi), if_neg hf, if_pos List.mem_cons_self]
      · rw [List.getElem?_set_ne hij, fvu_get ad hi]
        by_cases z : fk (kl o) i = 0
        · rw [if_pos z, if_pos z]
        · rw [if_neg z, if_neg z]
          have := hne o i ho hi z (fun h => hij h.2.symm)
          by_cases y : (o + fk (kl o) i) ∈ X
          · rw [if_pos y, if_pos (List.mem_cons_of_mem _ y)]
          · rw [if_neg y, if_neg (fun y' => (List.mem_cons.mp y').elim this y)]
    · rw [List.getElem?_eq_none (by rw [List.length_set, fvu_len]; omega), List.getElem?_eq_none (by rw [fvu_len]; omega)]
  · by_cases z : kl k < 13
    · rw [ceu_obj ad cA z, ceu_obj ad cA z, fvu_congr ad (fun _ _ _ => rfl) (fun i hi hfi => ?_)]
      have := hne k i hk hi hfi (fun h => hko h.1)
      exact ⟨fun y => (List.mem_cons.mp y).resolve_left this, fun y => List.mem_cons_of_mem _ y⟩
    · rw [ceu_arr ad cA z, ceu_arr ad cA z]
theorem wsU_putI {n o j : Nat} {v : Int} {X : List Nat} {st : St} (h13 : kl o < 13) (hj : j < nf (kl o)) (hf : fk (kl o) j = 0) : (wsU ad cA n X st).set o (ad o, .inr (kl o, (fvu ad X st o).set j (.int (oI v)))) = wsU ad cA n X (up2 st o j v) := by
  rw [wsU_set ad cA (o := o) (X := X) (st := st) (X' := X) (st' := up2 st o j v) (fun k hk hko => ?_), ceu_obj ad cA h13]
  · congr 4
    apply List.ext_getElem?
    intro i
    by_cases hi : i < nf (kl o)
    · rw [fvu_get ad hi, up2_self]
      by_cases hij : j = i
      · subst hij
        rw [List.getElem?_set_self (by rw [fvu_len]; exact hi), if_pos hf]
        simp [upf]
      · rw [List.getElem?_set_ne hij, fvu_get ad hi]
        simp [upf, Ne.symm hij]
    · rw [List.getElem?_eq_none (by rw [List.length_set, fvu_len]; omega), List.getElem?_eq_none (by rw [fvu_len]; omega)]
  · by_cases z : kl k < 13
    · rw [ceu_obj ad cA z, ceu_obj ad cA z, fvu_congr ad (fun i _ _ => by rw [up2_ne hko]) (fun i hi hfi => Iff.rfl)]
    · rw [ceu_arr ad cA z, ceu_arr ad cA z, up2_ne hko]
theorem wsU_all {n : Nat} {X : List Nat} {st : St} (h : ∀ k, k < n → ∀ j, j < nf (kl k) → fk (kl k) j ≠ 0 → (k + fk (kl k) j) ∈ X) : wsU ad cA n X st = wsO n ad cA st := by
  apply List.ext_getElem?
  intro i
  by_cases hi : i < n
  · rw [wsU_get ad cA hi, wsO_get n ad cA hi]
    by_cases z : kl i < 13
    · rw [ceu_obj ad cA z, cel_obj ad cA z]
      congr 4
      apply List.ext_getElem?
      intro j
      by_cases hj : j < nf (kl i)
      · rw [fvu_get ad hj, fvs_get ad hj]
        by_cases y : fk (kl i) j = 0
        · rw [if_pos y, if_pos y]
        · rw [if_neg y, if_neg y, if_pos (h i hi j hj y)]
      · rw [List.getElem?_eq_none (by rw [fvu_len]; omega), List.getElem?_eq_none (by rw [fvs_len]; omega)]
    · rw [ceu_arr ad cA z, cel_arr ad cA z]
  · rw [List.getElem?_eq_none (by rw [wsU_len]; omega), List.getElem?_eq_none (by unfold wsO; simp; omega)]
theorem wsU_D {nO n : Nat} {X : List Nat} {st : St} (hn : n ≤ nO) (h : inj nO ad) : va_D (A0 nO ad) (wsU ad cA n X st) := by
  have key : ∀ (i : Nat) (p : Nat × va_E), (wsU ad cA n X st)[i]? = some p → i < n ∧ p.1 = ad i := by
    intro i p hp
    have hi : i < n := by
      have := (List.getElem?_eq_some_iff.mp hp).1
      rw [wsU_len] at this
      exact this
    rw [wsU_get ad cA hi] at hp
    cases hp
    exact ⟨hi, rfl⟩
  refine ⟨fun i j p q hp hq hpq => ?_, fun k q hq => ?_⟩
  · obtain ⟨h1, h2⟩ := key i p hp
    obtain ⟨h3, h4⟩ := key j q hq
    exact h i j (by omega) (by omega) (by rw [← h2, ← h4]; exact hpq)
  · obtain ⟨h1, h2⟩ := key k q hq
    exact ⟨k, by omega, h2⟩
end CTW
