/-! What a function's value gives: Tt; loops. -/
def Tt {ρ : Type} (x : Option ρ) (K : ρ → Prop) : Prop := ∃ r, x = some r ∧ K r
def gd {ρ : Type} (b : Bool) (k : Option ρ) : Option ρ := if b = true then k else none
def lt {α β : Type} (a : α) (f : α → β) : β := f a
def bz (v : Int32) : Bool := decide (v = 0) || decide (v = 1)
theorem bz_or {v : Int32} (h : bz v = true) : v = 0 ∨ v = 1 := by
  unfold bz at h
  rw [Bool.or_eq_true, decide_eq_true_eq, decide_eq_true_eq] at h
  exact h
theorem tt_some {ρ : Type} {r : ρ} {K : ρ → Prop} (h : Tt (some r) K) : K r := by
  obtain ⟨r', e, h⟩ := h
  cases e
  exact h
theorem tt_bind {ρ σ : Type} {x : Option σ} {f : σ → Option ρ} {K : ρ → Prop} (h : Tt (x.bind f) K) : Tt x (fun r => Tt (f r) K) := by
  obtain ⟨r, e, h⟩ := h
  cases x with
  | none => cases e
  | some y => exact ⟨y, rfl, r, e, h⟩
theorem tt_map {ρ σ : Type} {x : Option σ} {f : σ → ρ} {K : ρ → Prop} (h : Tt (x.map f) K) : Tt x (fun r => K (f r)) := by
  obtain ⟨r, e, h⟩ := h
  cases x with
  | none => cases e
  | some y => cases e; exact ⟨y, rfl, h⟩
theorem tt_gd {ρ : Type} {b : Bool} {k : Option ρ} {K : ρ → Prop} (h : Tt (gd b k) K) : b = true ∧ Tt k K := by
  cases b with
  | false => obtain ⟨r, e, h⟩ := h; cases e
  | true => exact ⟨rfl, h⟩
theorem tt_t {ρ : Type} {c : Prop} {dc : Decidable c} {a b : Option ρ} {K : ρ → Prop} (h : Tt (@ite _ c dc a b) K) (hc : c) : Tt a K := by rw [if_pos hc] at h; exact h
theorem tt_f {ρ : Type} {c : Prop} {dc : Decidable c} {a b : Option ρ} {K : ρ → Prop} (h : Tt (@ite _ c dc a b) K) (hc : ¬ c) : Tt b K := by rw [if_neg hc] at h; exact h
theorem tt_lt {ρ α : Type} {a : α} {f : α → Option ρ} {K : ρ → Prop} (h : Tt (lt a f) K) : ∃ y, y = a ∧ Tt (f y) K := ⟨a, rfl, h⟩
def lpN {σ ρ : Type} (f : σ → Option (σ ⊕ ρ)) : Nat → σ → Option ρ
  | 0, _ => none
  | n + 1, s => match f s with
    | none => none
    | some (.inl s') => lpN f n s'
    | some (.inr r) => some r
/-- a loop: f is a round, .inl goes on, .inr ends it; none if it never ends -/
noncomputable def lp {σ ρ : Type} (f : σ → Option (σ ⊕ ρ)) (s : σ) : Option ρ := @dite _ (∃ n r, lpN f n s = some r) (Classical.propDecidable _) (fun h => some h.choose_spec.choose) (fun _ => none)
theorem lpN_mono {σ ρ : Type} {f : σ → Option (σ ⊕ ρ)} : ∀ (n m : Nat) (s : σ) (r : ρ), n ≤ m → lpN f n s = some r → lpN f m s = some r
  | 0, _, _, _, _, h => by cases h
  | n + 1, 0, _, _, hm, _ => by omega
  | n + 1, m + 1, s, r, hm, h => by
    unfold lpN at h ⊢
    cases e : f s with
    | none => rw [e] at h; cases h
    | some o =>
      rw [e] at h
      cases o with
      | inl s' => exact lpN_mono n m s' r (by omega) h
      | inr r' => exact h
theorem lpN_one {σ ρ : Type} {f : σ → Option (σ ⊕ ρ)} {n m : Nat} {s : σ} {r r' : ρ} (h : lpN f n s = some r) (h' : lpN f m s = some r') : r = r' := by
  rcases Nat.le_total n m with q | q
  · rw [lpN_mono n m s r q h] at h'; cases h'; rfl
  · rw [lpN_mono m n s r' q h'] at h; cases h; rfl
theorem lp_of {σ ρ : Type} {f : σ → Option (σ ⊕ ρ)} {n : Nat} {s : σ} {r : ρ} (h : lpN f n s = some r) : lp f s = some r := by
  have he : ∃ n r, lpN f n s = some r := ⟨n, r, h⟩
  unfold lp
  rw [dif_pos he]
  exact congrArg some (lpN_one he.choose_spec.choose_spec h)
theorem lp_to {σ ρ : Type} {f : σ → Option (σ ⊕ ρ)} {s : σ} {r : ρ} (h : lp f s = some r) : ∃ n, lpN f n s = some r := by
  unfold lp at h
  by_cases he : ∃ n r, lpN f n s = some r
  · rw [dif_pos he] at h
    have := he.choose_spec.choose_spec
    cases h
    exact ⟨_, this⟩
  · rw [dif_neg he] at h; cases h
/-- a loop is its first round, and then the loop -/
theorem lp_eq {σ ρ : Type} (f : σ → Option (σ ⊕ ρ)) (s : σ) : lp f s = (f s).bind (fun o => match o with | .inl s' => lp f s' | .inr r => some r) := by
  cases e : f s with
  | none =>
    cases h : lp f s with
    | none => rfl
    | some r =>
      obtain ⟨n, hn⟩ := lp_to h
      cases n with
      | zero => cases hn
      | succ n => unfold lpN at hn; rw [e] at hn; cases hn
  | some o =>
    cases o with
    | inr r => exact lp_of (n := 1) (by unfold lpN; rw [e])
    | inl s' =>
      show lp f s = lp f s'
      cases h : lp f s' with
      | some r =>
        obtain ⟨n, hn⟩ := lp_to h
        exact lp_of (n := n + 1) (by unfold lpN; rw [e]; exact hn)
      | none =>
        cases h2 : lp f s with
        | none => rfl
        | some r =>
          obtain ⟨n, hn⟩ := lp_to h2
          cases n with
          | zero => cases hn
          | succ n => unfold lpN at hn; rw [e] at hn; rw [lp_of hn] at h; cases h
def KS {σ ρ : Type} (P : σ → Prop) (K : ρ → Prop) : σ ⊕ ρ → Prop := fun o => match o with
  | .inl s => P s
  | .inr r => K r
theorem lp_ind {σ ρ : Type} {f : σ → Option (σ ⊕ ρ)} {P : σ → Prop} {K : ρ → Prop} (hs : ∀ s, Tt (f s) (KS P K) → P s) (s : σ) (h : Tt (lp f s) K) : P s := by
  obtain ⟨r, e, hK⟩ := h
  obtain ⟨n, hn⟩ := lp_to e
  clear e
  induction n generalizing s with
  | zero => cases hn
  | succ n ih =>
    unfold lpN at hn
    cases e : f s with
    | none => rw [e] at hn; cases hn
    | some o =>
      rw [e] at hn
      cases o with
      | inl s' => exact hs s ⟨_, e, ih s' hn⟩
      | inr r' => cases hn; exact hs s ⟨_, e, hK⟩
