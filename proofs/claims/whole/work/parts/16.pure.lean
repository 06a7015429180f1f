/-! Pure: Tt as what must hold behind a value; loops; ints. -/
theorem ti_some {ρ : Type} {r : ρ} {K : ρ → Prop} : Tt (some r) K ↔ K r := ⟨tt_some, fun h => ⟨r, rfl, h⟩⟩
theorem ti_none {ρ : Type} {K : ρ → Prop} : Tt (none : Option ρ) K ↔ False := by
  constructor
  · intro h; obtain ⟨r, e, _⟩ := h; cases e
  · intro h; exact False.elim h
theorem ti_bind {ρ σ : Type} {x : Option σ} {f : σ → Option ρ} {K : ρ → Prop} : Tt (x.bind f) K ↔ Tt x (fun r => Tt (f r) K) := ⟨tt_bind, fun h => by
  obtain ⟨r, e, r', e', h⟩ := h
  exact ⟨r', by rw [e]; exact e', h⟩⟩
theorem ti_map {ρ σ : Type} {x : Option σ} {f : σ → ρ} {K : ρ → Prop} : Tt (x.map f) K ↔ Tt x (fun r => K (f r)) := ⟨tt_map, fun h => by
  obtain ⟨r, e, h⟩ := h
  exact ⟨f r, by rw [e]; rfl, h⟩⟩
theorem ti_gd {ρ : Type} {b : Bool} {k : Option ρ} {K : ρ → Prop} : Tt (gd b k) K ↔ b = true ∧ Tt k K := ⟨tt_gd, fun h => by
  obtain ⟨e, h⟩ := h
  rw [e]; exact h⟩
theorem ti_lt {ρ α : Type} {a : α} {f : α → Option ρ} {K : ρ → Prop} : Tt (lt a f) K ↔ Tt (f a) K := Iff.rfl
theorem ti_ite {ρ : Type} {c : Prop} {dc : Decidable c} {a b : Option ρ} {K : ρ → Prop} : Tt (@ite _ c dc a b) K ↔ (c → Tt a K) ∧ (¬ c → Tt b K) := by
  constructor
  · intro h; exact ⟨tt_t h, tt_f h⟩
  · intro h
    by_cases hc : c
    · rw [if_pos hc]; exact h.1 hc
    · rw [if_neg hc]; exact h.2 hc
theorem tt_mono {ρ : Type} {x : Option ρ} {P Q : ρ → Prop} (h : Tt x P) (hq : ∀ r, P r → Q r) : Tt x Q := by
  obtain ⟨r, e, h⟩ := h
  exact ⟨r, e, hq r h⟩
theorem tt_eq {ρ : Type} {x : Option ρ} {r : ρ} {K : ρ → Prop} (e : x = some r) (h : K r) : Tt x K := ⟨r, e, h⟩
theorem tt_of {ρ : Type} {x : Option ρ} {r : ρ} (h : Tt x (fun r' => r' = r)) : x = some r := by
  obtain ⟨r', e, h⟩ := h
  rw [e, h]
theorem lp_inl {σ ρ : Type} {f : σ → Option (σ ⊕ ρ)} {s s' : σ} (h : f s = some (.inl s')) : lp f s = lp f s' := by rw [lp_eq, h]; rfl
theorem lp_inr {σ ρ : Type} {f : σ → Option (σ ⊕ ρ)} {s : σ} {o : Option ρ} (h : f s = o.map (fun z => Sum.inr z)) : lp f s = o := by rw [lp_eq, h]; cases o <;> rfl
/-- a loop with an invariant and a number that falls -/
theorem tt_lp {σ ρ : Type} {f : σ → Option (σ ⊕ ρ)} {Q : ρ → Prop} (I : Nat → σ → Prop) (hs : ∀ n s, I n s → Tt (f s) (KS (fun s' => ∃ n', n' < n ∧ I n' s') Q)) : ∀ (n : Nat) (s : σ), I n s → Tt (lp f s) Q := by
  intro n
  induction n using Nat.strongRecOn with
  | ind n ih =>
    intro s hi
    obtain ⟨o, e, h⟩ := hs n s hi
    cases o with
    | inl s' =>
      obtain ⟨n', hn, hi'⟩ := h
      rw [lp_inl e]
      exact ih n' hn s' hi'
    | inr r =>
      have : lp f s = some r := lp_inr (o := some r) e
      exact ⟨r, this, h⟩
/-- a loop by its states, one behind another -/
theorem lp_run {σ ρ : Type} {f : σ → Option (σ ⊕ ρ)} (st : Nat → σ) : ∀ (n : Nat), (∀ i, i < n → f (st i) = some (.inl (st (i + 1)))) → lp f (st 0) = lp f (st n)
  | 0, _ => rfl
  | n + 1, h => by
    rw [lp_run st n (fun i hi => h i (by omega))]
    exact lp_inl (h n (by omega))
theorem lp_for {σ ρ : Type} {f : σ → Option (σ ⊕ ρ)} (st : Nat → σ) (n : Nat) {o : Option ρ} (h : ∀ i, i < n → f (st i) = some (.inl (st (i + 1)))) (he : f (st n) = o.map (fun z => Sum.inr z)) : lp f (st 0) = o := by
  rw [lp_run st n h]; exact lp_inr he
theorem lp_for1 {σ ρ : Type} {f : σ → Option (σ ⊕ ρ)} (st : Nat → σ) (n : Nat) {r : ρ} (h : ∀ i, i < n → f (st i) = some (.inl (st (i + 1)))) (he : f (st n) = some (.inr r)) : lp f (st 0) = some r := lp_for (o := some r) st n h he
/-- ints -/
theorem lit (n : Nat) : (OfNat.ofNat n : Int32) = nI (OfNat.ofNat n) := rfl
theorem inb_nI {k n : Nat} (hk : k < 2 ^ 31) : inb (nI k) n = decide (k < n) := by
  unfold inb
  rw [nI_clamp hk, decide_eq_true (nI_pos' hk), Bool.true_and]
theorem inb_t {k n : Nat} (hk : k < n) (hn : n < 2 ^ 31) : inb (nI k) n = true := by
  rw [inb_nI (by omega)]; exact decide_eq_true hk
theorem ix_nI {k : Nat} (hk : k < 2 ^ 31) : ix (nI k) = k := nI_clamp hk
/-- how many of the first n -/
def cnt (p : Nat → Bool) : Nat → Nat
  | 0 => 0
  | n + 1 => cnt p n + (if p n then 1 else 0)
theorem cnt_le (p : Nat → Bool) : ∀ n, cnt p n ≤ n
  | 0 => Nat.le_refl 0
  | n + 1 => by
    have := cnt_le p n
    unfold cnt
    split <;> omega
theorem cnt_congr {p q : Nat → Bool} : ∀ {n : Nat}, (∀ i, i < n → p i = q i) → cnt p n = cnt q n
  | 0, _ => rfl
  | n + 1, h => by
    unfold cnt
    rw [cnt_congr (fun i hi => h i (by omega)), h n (by omega)]
def hrd (pin fl ms : Int32) : Int32 := if pin = 0 then 0 else if (ms >>> (pin &&& 31)) &&& 1 = 1 then 0 else if pin + fl / 5 < 9 then pin + fl / 5 else 9
theorem f0_misses_eq (p : Nat) (t : Int32) (h : Hp) : f0_misses p t h = some (if ((h.1 p 9) >>> (t &&& 31)) &&& 1 = 1 then 1 else 0) := by
  unfold f0_misses; split <;> rfl
theorem f0_isKinOf_eq (p : Nat) (t : Int32) (h : Hp) : f0_isKinOf p t h = some (if ((h.1 p 4) >>> (t &&& 31)) &&& 1 = 1 then 1 else 0) := by
  unfold f0_isKinOf; split <;> rfl
theorem f0_heardWith_eq (p k : Nat) (fl : Int32) (h : Hp) (hk : k < 8) : f0_heardWith p (nI k) fl h = some (hrd (h.1 (p + 1) k) fl (h.1 p 9)) := by
  simp only [f0_heardWith, lt, gd, inb_t hk (by omega), ix_nI (show k < 2 ^ 31 by omega), if_true, hrd, f0_heardWith_19, f0_misses_eq]
  by_cases h0 : h.1 (p + 1) k = 0
  · simp only [h0, if_true]
  · by_cases h1 : ((h.1 p 9) >>> (h.1 (p + 1) k &&& 31)) &&& 1 = 1
    · simp only [h0, h1, if_true, if_false]; rfl
    · simp only [h0, h1, if_true, if_false]; rfl
theorem f0_heardNow_eq (p k : Nat) (h : Hp) (hk : k < 8) : f0_heardNow p (nI k) h = some (hrd (h.1 (p + 1) k) (h.1 p 6) (h.1 p 9)) := by
  unfold f0_heardNow; rw [f0_heardWith_eq p k _ h hk]; rfl
