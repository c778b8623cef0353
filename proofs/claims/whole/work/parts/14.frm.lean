/-! what a run can't reach stays as it was -/
def RIn (G : Nat → Prop) (v : V) : Prop := match v with
  | some (.inr o) => G o
  | _ => True
def RL (G : Nat → Prop) (l : List V) : Prop := ∀ v ∈ l, RIn G v
def offOK (a b : Nat) : Bool := (fkL.getD a []).any (fun x => decide (x = b))
def Gc (G : Nat → Prop) : Prop := ∀ o b, G o → offOK (kl o) b = true → G (o + b)
def Ag (G : Nat → Prop) (s0 st : St) : Prop := ∀ j, ¬ G j → st j = s0 j
theorem RL_cons {G : Nat → Prop} {v : V} {l : List V} (h : RIn G v) (hl : RL G l) : RL G (v :: l) := by
  intro w hw
  rcases List.mem_cons.mp hw with rfl | hw
  · exact h
  · exact hl w hw
theorem RL_tl {G : Nat → Prop} {v : V} {l : List V} (h : RL G (v :: l)) : RL G l := fun w hw => h w (List.mem_cons_of_mem _ hw)
theorem RL_hd {G : Nat → Prop} {v : V} {l : List V} (h : RL G (v :: l)) : RIn G v := h v List.mem_cons_self
theorem RL_lp {G : Nat → Prop} {ls : List V} {a : Nat} {v : V} (h : RL G ls) (hv : RIn G v) : RL G (lp ls a v) := by
  intro w hw
  rcases lp_mem hw with rfl | hw
  · exact hv
  · exact h w hw
theorem Ag_up2 {G : Nat → Prop} {s0 st : St} {o i : Nat} {v : Int} (h : Ag G s0 st) (ho : G o) : Ag G s0 (up2 st o i v) := by
  intro j hj
  rw [up2_ne (fun e => hj (by rw [e]; exact ho))]
  exact h j hj
theorem Ag_up1 {G : Nat → Prop} {s0 st : St} {o : Nat} {f : Nat → Int} (h : Ag G s0 st) (ho : G o) : Ag G s0 (up1 st o f) := by
  intro j hj
  rw [up1_ne (fun e => hj (by rw [e]; exact ho))]
  exact h j hj
def ai7 (q : Ai) : Bool := if q.1 = 7 then offOK q.2.1 q.2.2.1 else true
def CFr (G : Nat → Prop) (C : Cn) : Prop := ∀ k as st Q, C k as st Q → RL G as → C k as st (fun v st' => Q v st' ∧ RIn G v ∧ Ag G st st')
section FRM
variable {G : Nat → Prop} {C : Cn} {L : Nat} {sx : Nat → Int} {s0 : St}
theorem s1_fr (hG : Gc G) (hm : Cm C) (hC : CFr G C) {k k' : Kn} (hk : ∀ ls stk st, RL G ls → RL G stk → Ag G s0 st → k ls stk st → k' ls stk st) {t a b d : Nat} (h7 : ai7 (t, a, b, d) = true) {ls stk : List V} {st : St} (hl : RL G ls) (hs : RL G stk) (ha : Ag G s0 st) (h : s1 C L sx t a b k ls stk st) : s1 C L sx t a b k' ls stk st := by
  unfold s1 at h ⊢
  split at h
  case h_1 => exact hk _ _ _ hl (RL_cons trivial hs) ha h
  case h_2 => exact hk _ _ _ hl (RL_cons trivial hs) ha h
  case h_3 =>
    unfold i_load at h ⊢
    split at h
    · exact hk _ _ _ hl (RL_cons trivial hs) ha h
    · exact h.elim
  case h_4 =>
    unfold i_store at h ⊢
    split at h
    · exact hk _ _ _ (RL_lp hl trivial) (RL_tl hs) ha h
    · exact h.elim
  case h_5 =>
    unfold i_inc at h ⊢
    split at h
    · exact hk _ _ _ (RL_lp hl trivial) hs ha h
    · exact h.elim
  case h_6 =>
    unfold i_inc at h ⊢
    split at h
    · exact hk _ _ _ (RL_lp hl trivial) hs ha h
    · exact h.elim
  case h_7 =>
    unfold i_get at h ⊢
    split at h
    · exact ⟨h.1, hk _ _ _ hl (RL_cons trivial (RL_tl hs)) ha h.2⟩
    · exact h.elim
  case h_8 =>
    unfold i_getR at h ⊢
    split at h
    · rename_i o s
      have h7' : offOK a b = true := h7
      exact ⟨h.1, hk _ _ _ hl (RL_cons (hG o b (RL_hd hs) (by rw [h.1]; exact h7')) (RL_tl hs)) ha h.2⟩
    · exact h.elim
  case h_9 =>
    unfold i_put at h ⊢
    split at h
    · exact ⟨h.1, hk _ _ _ hl (RL_tl (RL_tl hs)) (Ag_up2 ha (RL_hd (RL_tl hs))) h.2⟩
    · exact h.elim
  case h_10 =>
    unfold i_putZ at h ⊢
    split at h
    · exact ⟨h.1, h.2.1, hk _ _ _ hl (RL_tl (RL_tl hs)) (Ag_up2 ha (RL_hd (RL_tl hs))) h.2.2⟩
    · exact h.elim
  all_goals first
    | exact h.elim
    | (unfold i_ald at h ⊢
       split at h
       · exact ⟨h.1, h.2.1, hk _ _ _ hl (RL_cons trivial (RL_tl (RL_tl hs))) ha h.2.2⟩
       · exact h.elim)
    | (unfold i_ast at h ⊢
       split at h
       · exact ⟨h.1, h.2.1, hk _ _ _ hl (RL_tl (RL_tl (RL_tl hs))) (Ag_up2 ha (RL_hd (RL_tl (RL_tl hs)))) h.2.2⟩
       · exact h.elim)
    | (unfold i_astB at h ⊢
       split at h
       · exact ⟨h.1, h.2.1, hk _ _ _ hl (RL_tl (RL_tl (RL_tl hs))) (Ag_up2 ha (RL_hd (RL_tl (RL_tl hs)))) h.2.2⟩
       · exact h.elim)
    | (unfold i_astZ at h ⊢
       split at h
       · exact ⟨h.1, h.2.1, h.2.2.1, hk _ _ _ hl (RL_tl (RL_tl (RL_tl hs))) (Ag_up2 ha (RL_hd (RL_tl (RL_tl hs)))) h.2.2.2⟩
       · exact h.elim)
    | (unfold i_alen at h ⊢
       split at h
       · exact ⟨h.1, hk _ _ _ hl (RL_cons trivial (RL_tl hs)) ha h.2⟩
       · exact h.elim)
    | (unfold i_bin at h ⊢
       split at h
       · exact hk _ _ _ hl (RL_cons trivial (RL_tl (RL_tl hs))) ha h
       · exact h.elim)
    | (unfold i_div at h ⊢
       split at h
       · exact ⟨h.1, hk _ _ _ hl (RL_cons trivial (RL_tl (RL_tl hs))) ha h.2⟩
       · exact h.elim)
    | (unfold i_i2b at h ⊢
       split at h
       · exact hk _ _ _ hl (RL_cons trivial (RL_tl hs)) ha h
       · exact h.elim)
    | (unfold i_dup at h ⊢
       split at h
       · exact hk _ _ _ hl (RL_cons (RL_hd hs) hs) ha h
       · exact h.elim)
    | (unfold i_pop at h ⊢
       split at h
       · exact hk _ _ _ hl (RL_tl hs) ha h
       · exact h.elim)
    | (unfold i_dup2 at h ⊢
       split at h
       · exact hk _ _ _ hl (RL_cons (RL_hd hs) (RL_cons (RL_hd (RL_tl hs)) hs)) ha h
       · exact h.elim)
    | (unfold i_min at h ⊢
       split at h
       · exact ⟨h.1, hk _ _ _ hl (RL_cons trivial (RL_tl (RL_tl hs))) ha h.2⟩
       · exact h.elim)
    | (unfold i_max at h ⊢
       split at h
       · exact ⟨h.1, hk _ _ _ hl (RL_cons trivial (RL_tl (RL_tl hs))) ha h.2⟩
       · exact h.elim)
    | (unfold i_copy at h ⊢
       split at h
       · exact ⟨h.1, h.2.1, h.2.2.1, h.2.2.2.1, h.2.2.2.2.1, hk _ _ _ hl (RL_tl (RL_tl (RL_tl (RL_tl (RL_tl hs))))) (Ag_up1 ha (RL_hd (RL_tl (RL_tl hs)))) h.2.2.2.2.2⟩
       · exact h.elim)
    | (unfold i_sld at h ⊢
       split at h
       · exact ⟨h.1, h.2.1, hk _ _ _ hl (RL_cons trivial (RL_tl (RL_tl hs))) ha h.2.2⟩
       · exact h.elim)
    | (unfold i_sln at h ⊢
       split at h
       · exact ⟨h.1, h.2.1, hk _ _ _ hl (RL_cons trivial (RL_tl hs)) ha h.2.2⟩
       · exact h.elim)
    | (unfold i_loadR at h ⊢
       split at h
       · rename_i x hg
         exact hk _ _ _ hl (RL_cons (hl _ (lg_mem hg)) hs) ha h
       · exact h.elim)
    | (unfold i_storeR at h ⊢
       split at h
       · exact hk _ _ _ (RL_lp hl (RL_hd hs)) (RL_tl hs) ha h
       · exact h.elim)
    | (unfold i_call at h ⊢
       split at h
       · rename_i as s hp
         have hsp := (pn_spec _ _ _ _ _ hp).1
         rw [List.reverse_nil, List.nil_append] at hsp
         have h1 : RL G as := fun v hv => hs v (by rw [hsp]; exact List.mem_append_left _ (List.mem_reverse.mpr hv))
         have h2 : RL G s := fun v hv => hs v (by rw [hsp]; exact List.mem_append_right _ hv)
         refine ⟨h.1, hm _ _ _ _ _ ?_ (hC _ _ _ _ h.2 h1)⟩
         rintro v st' ⟨q1, q2, q3⟩
         cases v with
         | none => exact hk _ _ _ hl h2 (fun j hj => (q3 j hj).trans (ha j hj)) q1
         | some x => exact q1.elim
       · exact h.elim)
    | (unfold i_callI at h ⊢
       split at h
       · rename_i as s hp
         have hsp := (pn_spec _ _ _ _ _ hp).1
         rw [List.reverse_nil, List.nil_append] at hsp
         have h1 : RL G as := fun v hv => hs v (by rw [hsp]; exact List.mem_append_left _ (List.mem_reverse.mpr hv))
         have h2 : RL G s := fun v hv => hs v (by rw [hsp]; exact List.mem_append_right _ hv)
         refine ⟨h.1, hm _ _ _ _ _ ?_ (hC _ _ _ _ h.2 h1)⟩
         rintro v st' ⟨q1, q2, q3⟩
         cases v with
         | none => exact q1.elim
         | some x => exact hk _ _ _ hl (RL_cons q2 h2) (fun j hj => (q3 j hj).trans (ha j hj)) q1
       · exact h.elim)
theorem sw_fr {J J' : Nat → Kn} (x : Int) (d : Nat) (ls s : List V) (st : St) (hJ : ∀ b, J b ls s st → J' b ls s st) : ∀ r, t_sw J x d ls s st r → t_sw J' x d ls s st r
  | [], h => hJ _ h
  | (_, _, _, _) :: r, h => ⟨fun e => hJ _ (h.1 e), fun e => sw_fr x d ls s st hJ r (h.2 e)⟩
theorem tm_fr {J J' : Nat → Kn} {Q : Rn} {t a b : Nat} {r : List Ai} {ls stk : List V} {st : St} (hJ : ∀ b ls stk st, RL G ls → RL G stk → Ag G s0 st → J b ls stk st → J' b ls stk st) (hl : RL G ls) (hs : RL G stk) (ha : Ag G s0 st) (h : tm J Q t a b r ls stk st) : tm J' (fun v st' => Q v st' ∧ RIn G v ∧ Ag G s0 st') t a b r ls stk st := by
  unfold tm at h ⊢
  split at h <;> first
    | exact hJ _ _ _ _ hl hs ha h
    | (unfold t_cmp at h ⊢
       split at h
       · exact ⟨fun e => hJ _ _ _ _ hl (RL_tl (RL_tl hs)) ha (h.1 e), fun e => hJ _ _ _ _ hl (RL_tl (RL_tl hs)) ha (h.2 e)⟩
       · exact h.elim)
    | (unfold t_if at h ⊢
       split at h
       · exact ⟨fun e => hJ _ _ _ _ hl (RL_tl hs) ha (h.1 e), fun e => hJ _ _ _ _ hl (RL_tl hs) ha (h.2 e)⟩
       · exact h.elim)
    | (split at h
       · exact ⟨h, RL_hd hs, ha⟩
       · exact h.elim)
    | (split at h
       · exact ⟨h.1, h.2, RL_hd hs, ha⟩
       · exact h.elim)
    | (split at h
       · exact ⟨h, trivial, ha⟩
       · exact h.elim)
    | (split at h
       · exact sw_fr _ _ _ _ _ (fun b hb => hJ _ _ _ _ hl (RL_tl hs) ha hb) _ h
       · exact h.elim)
    | exact h.elim
theorem ex_fr (hG : Gc G) (hm : Cm C) (hC : CFr G C) {J J' : Nat → Kn} {Q : Rn} (hJ : ∀ b ls stk st, RL G ls → RL G stk → Ag G s0 st → J b ls stk st → J' b ls stk st) : ∀ (is : List Ai), is.all ai7 = true ∨ is = [] → ∀ (ls stk : List V) (st : St), RL G ls → RL G stk → Ag G s0 st → ex J Q C L sx is ls stk st → ex J' (fun v st' => Q v st' ∧ RIn G v ∧ Ag G s0 st') C L sx is ls stk st
  | [], _, _, _, _, _, _, _, h => h
  | (t, a, b, d) :: r, h7, ls, stk, st, hl, hs, ha, h => by
    have h7 : ai7 (t, a, b, d) = true ∧ r.all ai7 = true := by
      rcases h7 with h7 | h7
      · rwa [List.all_cons, Bool.and_eq_true] at h7
      · cases h7
    unfold ex at h ⊢
    split at h
    · rename_i ht
      rw [if_pos ht]
      exact s1_fr hG hm hC (fun ls stk st h1 h2 h3 h4 => ex_fr hG hm hC hJ r (Or.inl h7.2) ls stk st h1 h2 h3 h4) h7.1 hl hs ha h
    · rename_i ht
      rw [if_neg ht]
      exact tm_fr hJ hl hs ha h
end FRM
theorem P_ai7 : ∀ k b, (P k b).all ai7 = true ∨ P k b = [] := by
  have h : bL.all (fun x => x.all (fun y => y.all ai7)) = true := by decide +kernel
  intro k b
  unfold P
  rw [List.getD_eq_getElem?_getD, List.getD_eq_getElem?_getD]
  cases h1 : bL[k]? with
  | none => exact Or.inr rfl
  | some x =>
    have hx := List.all_eq_true.mp h x (List.mem_of_getElem? h1)
    cases h2 : x[b]? with
    | none => right; simp [h2]
    | some y => left; simpa [h2] using List.all_eq_true.mp hx y (List.mem_of_getElem? h2)
theorem AW_fr {G : Nat → Prop} {k d b : Nat} {Q : Rn} {ls stk : List V} {st s0 : St} {L : Nat} {sx : Nat → Int} (hG : Gc G) (hC : CFr G (MS d)) (hl : RL G ls) (hs : RL G stk) (ha : Ag G s0 st) (h : AW (P k) Q (MS d) L sx b ls stk st) : AW (P k) (fun v st' => Q v st' ∧ RIn G v ∧ Ag G s0 st') (MS d) L sx b ls stk st := by
  refine h (fun b ls stk st => RL G ls → RL G stk → Ag G s0 st → AW (P k) (fun v st' => Q v st' ∧ RIn G v ∧ Ag G s0 st') (MS d) L sx b ls stk st) (fun b ls stk st hx hl hs ha => ?_) hl hs ha
  exact AW.step (MS_mono d) (ex_fr hG (MS_mono d) hC (fun b ls stk st h1 h2 h3 h4 => h4 h1 h2 h3) (P k b) (P_ai7 k b) ls stk st hl hs ha hx)
/-- a method leaves alone what it can't reach -/
theorem MS_fr {G : Nat → Prop} (hG : Gc G) : ∀ d, CFr G (MS d)
  | 0 => fun _ _ _ _ h _ => h.elim
  | d + 1 => fun k as st Q h hr => ⟨h.1, AW_fr hG (MS_fr hG d) (fun v hv => by
      rcases List.mem_append.mp hv with hv | hv
      · exact hr v hv
      · rw [(List.mem_replicate.mp hv).2]; trivial) (fun v hv => by cases hv) (fun _ _ => rfl) h.2⟩
