/-! What both memories speak of: numbers by component and place. -/
abbrev Sp : Type := Nat → Nat → Nat
def tb (x p : Nat) : Bool := decide (x / 2 ^ p % 2 = 1)
theorem s_l : ∀ n, n < 32 → ((nI n &&& 31).toBitVec.smod 32).toNat = n := by decide
theorem shr_nI {x p : Nat} (hx : x < 2 ^ 31) (hp : p < 32) : nI x >>> (nI p &&& 31) = nI (x / 2 ^ p) := pk_shrN hx _ p (s_l p hp)
theorem bit_nI {x p : Nat} (hx : x < 2 ^ 31) (hp : p < 32) : (nI x >>> (nI p &&& 31)) &&& 1 = nI (x / 2 ^ p % 2) := by
  rw [shr_nI hx hp]
  have h2 : x / 2 ^ p ≤ x := Nat.div_le_self _ _
  exact pk_andN (by omega) 1 (by decide)
theorem bit1 {x p : Nat} (hx : x < 2 ^ 31) (hp : p < 32) : ((nI x >>> (nI p &&& 31)) &&& 1 = 1) ↔ tb x p = true := by
  rw [bit_nI hx hp]
  simp (disch := omega) only [lit, nI_eq]
  unfold tb
  rw [decide_eq_true_eq]
/-- what is heard -/
def hN (pin fl ms : Nat) : Nat := if pin = 0 then 0 else if tb ms pin = true then 0 else if pin + fl / 5 < 9 then pin + fl / 5 else 9
theorem hN_le {pin fl ms : Nat} : hN pin fl ms ≤ 9 := by
  unfold hN
  split
  · omega
  · split
    · omega
    · split <;> omega
theorem hrd_nI {pin fl ms : Nat} (hp : pin ≤ 9) (hf : fl ≤ 99) (hm : ms < 1024) : hrd (nI pin) (nI fl) (nI ms) = nI (hN pin fl ms) := by
  unfold hrd hN
  by_cases h0 : pin = 0
  · subst h0; simp (disch := omega) only [lit, if_true, nI_eq]
  · have hb := bit1 (x := ms) (p := pin) (by omega) (by omega)
    simp (disch := omega) only [hb]
    simp (disch := omega) only [lit, pk_div, nI_add, nI_eq, nI_ltI, h0, if_false]
    split
    · rfl
    · split <;> rfl
def hS (S : Sp) (i k : Nat) : Nat := hN (S 7 (8 * i + k)) (S 3 i) (S 4 i)
/-- the boxes as they stand: 0 0 how many, 0 4 the year, 0 5 the number, 0 6 damp years; of box i: 1 slow, 2 spring, 3 false, 4 missing, 5 kin, 6 stolen, 7 pins (8 i + k), 8 played, 9 laughter -/
def wfNow (S : Sp) : Prop := S 0 0 ≤ 6 ∧ S 0 4 ≤ 9900 ∧ S 0 5 < 2 ^ 31 ∧ S 0 6 ≤ S 0 4 ∧ ∀ i, i < S 0 0 → (1 ≤ S 1 i ∧ S 1 i ≤ 9) ∧ S 2 i ≤ 99 ∧ S 3 i ≤ 99 ∧ (S 4 i < 1024 ∧ S 4 i % 2 = 0) ∧ S 5 i < 64 ∧ S 6 i ≤ 1 ∧ S 8 i ≤ S 0 4 ∧ S 9 i ≤ 99 * S 0 4 ∧ ∀ k, k < 8 → S 7 (8 * i + k) ≤ 9
def pinN (S : Sp) (i : Nat) : Nat := cnt (fun k => decide (0 < S 7 (8 * i + k))) 8
/-- a box of the class at the cell p is box i -/
def boxC (S : Sp) (i p : Nat) (c : Hp) : Prop := c.1 p 2 = nI (S 1 i) ∧ c.1 p 3 = nI (pinN S i) ∧ c.1 p 4 = nI (S 5 i) ∧ c.1 p 5 = nI (S 2 i) ∧ c.1 p 6 = nI (S 3 i) ∧ c.1 p 7 = nI (S 8 i) ∧ c.1 p 8 = nI (S 9 i) ∧ c.1 p 9 = nI (S 4 i) ∧ c.1 p 10 = nI (S 6 i) ∧ ∀ k, k < 8 → c.1 (p + 1) k = nI (S 7 (8 * i + k))
def nowC (S : Sp) (c : Hp) : Prop := c.1 6 1 = nI (S 0 0) ∧ c.1 6 2 = nI (S 0 4) ∧ c.1 6 3 = nI (S 0 5) ∧ c.1 6 4 = nI (S 0 6) ∧ ∀ i, i < S 0 0 → boxC S i (8 + 2 * i) c
def boxM (S : Sp) (i : Nat) (m : Hp) : Prop := m.1 7 i = nI (S 1 i) ∧ m.1 10 i = nI (S 5 i) ∧ m.1 24 i = nI (S 2 i) ∧ m.1 25 i = nI (S 3 i) ∧ m.1 26 i = nI (S 8 i) ∧ m.1 27 i = nI (S 9 i) ∧ m.1 29 i = nI (S 4 i) ∧ m.1 28 i = nI (S 6 i) ∧ ∀ k, k < 8 → m.1 8 (8 * i + k) = nI (S 7 (8 * i + k))
def nowM (S : Sp) (m : Hp) : Prop := m.1 0 12 = nI (S 0 0) ∧ m.1 30 0 = nI (S 0 4) ∧ m.2.1 0 57 = lN (S 0 5) ∧ m.1 31 0 = nI (S 0 6) ∧ ∀ i, i < S 0 0 → boxM S i m
/-- cells that any call may overwrite -/
def scrC (q : Nat) : Prop := q = 44 ∨ 46 ≤ q ∧ q ≤ 54
def frC (c c' : Hp) : Prop := (∀ q k, ¬ scrC q → c'.1 q k = c.1 q k) ∧ c'.2.2 = c.2.2
def scrM (q k : Nat) : Prop := (q = 0 ∧ (k = 2 ∨ k = 48 ∨ 58 ≤ k ∧ k ≤ 62)) ∨ ((24 ≤ q ∧ q ≤ 29) ∧ 6 ≤ k) ∨ ((q = 30 ∨ q = 31) ∧ 1 ≤ k) ∨ q = 32 ∨ q = 33 ∨ q = 35
def frM (m m' : Hp) : Prop := (∀ q k, ¬ scrM q k → m'.1 q k = m.1 q k) ∧ m'.2.1 0 57 = m.2.1 0 57 ∧ m'.2.1 0 74 = m.2.1 0 74
theorem frC.rf {c : Hp} : frC c c := ⟨fun _ _ _ => rfl, rfl⟩
theorem frC.tr {a b c : Hp} (h : frC a b) (h' : frC b c) : frC a c := ⟨fun q k n => (h'.1 q k n).trans (h.1 q k n), h'.2.trans h.2⟩
theorem frM.rf {c : Hp} : frM c c := ⟨fun _ _ _ => rfl, rfl, rfl⟩
theorem frM.tr {a b c : Hp} (h : frM a b) (h' : frM b c) : frM a c := ⟨fun q k n => (h'.1 q k n).trans (h.1 q k n), h'.2.1.trans h.2.1, h'.2.2.trans h.2.2⟩
theorem up2_of {α : Type} {f : Nat → Nat → α} {p k q j : Nat} {v : α} (h : ¬ (q = p ∧ j = k)) : up2 f p k v q j = f q j := by
  unfold up2
  by_cases hq : q = p
  · rw [if_pos hq]
    have : ¬ j = k := fun e => h ⟨hq, e⟩
    show (if j = k then v else f q j) = _
    rw [if_neg this]
  · rw [if_neg hq]
theorem frC.w {c c' : Hp} (h : frC c c') {p k : Nat} {v : Int32} (hs : scrC p) : frC c (wI c' p k v) :=
  ⟨fun q j n => (up2_of (fun e => n (by rw [e.1]; exact hs))).trans (h.1 q j n), h.2⟩
theorem frM.w {c c' : Hp} (h : frM c c') {p k : Nat} {v : Int32} (hs : scrM p k) : frM c (wI c' p k v) :=
  ⟨fun q j n => (up2_of (fun e => n (by rw [e.1, e.2]; exact hs))).trans (h.1 q j n), h.2⟩
theorem boxC.fr {S : Sp} {i p : Nat} {c c' : Hp} (h : boxC S i p c) (f : ∀ k, c'.1 p k = c.1 p k) (g : ∀ k, c'.1 (p + 1) k = c.1 (p + 1) k) : boxC S i p c' := by
  obtain ⟨h1, h2, h3, h4, h5, h6, h7, h8, h9, h10⟩ := h
  exact ⟨(f _).trans h1, (f _).trans h2, (f _).trans h3, (f _).trans h4, (f _).trans h5, (f _).trans h6, (f _).trans h7, (f _).trans h8, (f _).trans h9, fun k hk => (g _).trans (h10 k hk)⟩
theorem nowC.fr {S : Sp} {c c' : Hp} (w : wfNow S) (h : nowC S c) (f : frC c c') : nowC S c' := by
  have hn := w.1
  refine ⟨(f.1 _ _ (by unfold scrC; omega)).trans h.1, (f.1 _ _ (by unfold scrC; omega)).trans h.2.1, (f.1 _ _ (by unfold scrC; omega)).trans h.2.2.1, (f.1 _ _ (by unfold scrC; omega)).trans h.2.2.2.1, fun i hi => ?_⟩
  exact (h.2.2.2.2 i hi).fr (fun k => f.1 _ _ (by unfold scrC; omega)) (fun k => f.1 _ _ (by unfold scrC; omega))
theorem nowM.fr {S : Sp} {c c' : Hp} (w : wfNow S) (h : nowM S c) (f : frM c c') : nowM S c' := by
  have hn := w.1
  refine ⟨(f.1 _ _ (by unfold scrM; omega)).trans h.1, (f.1 _ _ (by unfold scrM; omega)).trans h.2.1, f.2.1.trans h.2.2.1, (f.1 _ _ (by unfold scrM; omega)).trans h.2.2.2.1, fun i hi => ?_⟩
  obtain ⟨h1, h2, h3, h4, h5, h6, h7, h8, h9⟩ := h.2.2.2.2 i hi
  exact ⟨(f.1 _ _ (by unfold scrM; omega)).trans h1, (f.1 _ _ (by unfold scrM; omega)).trans h2, (f.1 _ _ (by unfold scrM; omega)).trans h3, (f.1 _ _ (by unfold scrM; omega)).trans h4, (f.1 _ _ (by unfold scrM; omega)).trans h5, (f.1 _ _ (by unfold scrM; omega)).trans h6, (f.1 _ _ (by unfold scrM; omega)).trans h7, (f.1 _ _ (by unfold scrM; omega)).trans h8, fun k hk => (f.1 _ _ (by unfold scrM; omega)).trans (h9 k hk)⟩
