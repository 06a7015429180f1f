/-! winding: whom to wind. -/
def wdB (t : Nat) (B : Bx) : Bx := fun x => if x = 2 then min 99 (B 2 + t) else B x
theorem wd_2 {t : Nat} {B : Bx} : wdB t B 2 = min 99 (B 2 + t) := rfl
theorem wd_o {t x : Nat} {B : Bx} (h : x ≠ 2) : wdB t B x = B x := if_neg h
theorem wf_wd {Y t : Nat} {B P : Bx} (w : wfB Y B P) : wfB Y (wdB t B) P := by
  obtain ⟨w1, w2, w3, w4, w6, w8, w9, wp⟩ := w
  exact ⟨w1, by rw [wd_2]; omega, w3, w4, w6, w8, w9, wp⟩
theorem wd_0 {B : Bx} (h : B 2 ≤ 99) : wdB 0 B = B := by
  funext x
  by_cases q : x = 2
  · subst q; rw [wd_2]; omega
  · exact wd_o q
noncomputable def gW (S : Sp) (K b t : Nat) : Nat := gnB S (d50 S) (psS S b) (wdB t (bxS S b)) K
theorem gW_le {S : Sp} {K b t : Nat} (w0 : wfNow S) (hK : K ≤ 20) (hb : b < S 0 0) : gW S K b t ≤ 990000 := by
  have h1 := (wf_yrs (S := S) (y0 := S 0 4) (ds := fun _ => d50 S) (wf_wd (t := t) (wf_bx w0 hb)) K).2.2.2.2.2.2.1
  have h2 := w0.2.1
  unfold gW gnB
  omega
noncomputable def ga (S : Sp) (K T i t : Nat) : Nat := if t ≤ T ∧ i < S 0 0 then gW S K i t else 0
theorem ga_le {S : Sp} {K T i t : Nat} (w0 : wfNow S) (hK : K ≤ 20) : ga S K T i t ≤ 990000 := by
  unfold ga
  split
  · rename_i h; exact gW_le w0 hK h.2
  · omega
def fr53 (c h : Hp) : Prop := (∀ q k, ¬ (51 ≤ q ∧ q ≤ 53) → h.1 q k = c.1 q k) ∧ h.2.2 = c.2.2
theorem fr53.rf {c : Hp} : fr53 c c := ⟨fun _ _ _ => rfl, rfl⟩
theorem fr53.t {a b c : Hp} (h : fr53 a b) (h' : fr51 b c) : fr53 a c := ⟨fun q k n => (h'.1 q k (by omega)).trans (h.1 q k n), h'.2.trans h.2⟩
theorem fr53.fr {c h : Hp} (f : fr53 c h) : frC c h := ⟨fun q k n => f.1 q k (fun e => n (by unfold scrC; omega)), f.2⟩
theorem ten_i {i t : Nat} : (nI i * 10 + nI t : Int32) = nI (10 * i + t) := by rw [lit, pk_mul, nI_add, Nat.mul_comm]
theorem min_99 {a : Nat} (h : a < 2 ^ 31) : (if nI a < (99 : Int32) then nI a else 99 : Int32) = nI (min 99 a) := by
  rw [show (99 : Int32) = nI 99 from rfl]
  by_cases q : a < 99
  · rw [if_pos (nI_lt q (by omega)), show min 99 a = a by omega]
  · rw [if_neg (nI_nlt (by omega) (by omega)), show min 99 a = 99 by omega]
theorem weigh_ex {S : Sp} {t K T : Nat} {c m : Hp} (w0 : wfNow S) (w1 : wfTold S) (w : wfLaws S) (hC : nowC S c) (hT : toldC S t c) (hL : lawC S t c) (lM : lawM S m) (hK : K ≤ 20) (hTT : T ≤ 9) : ∃ c', f11_weighTurns (nI K) (nI T) c = some c' ∧ fr53 c c' ∧ ∀ i u, i < 3 → u < 10 → c'.1 53 (10 * i + u) = nI (ga S K T i u) := by
  have hn := w0.1
  unfold f11_weighTurns f11_weighTurns_2
  obtain ⟨⟨a, c1⟩, e, i1, i2, i3⟩ := lp_walk (f := fun z : Int32 × Hp => f11_weighTurns_2_s (nI K) (nI T) z.1 z.2) (fun i z => z.1 = nI i ∧ fr53 c z.2 ∧ ∀ j u, j < i → u < 10 → z.2.1 53 (10 * j + u) = nI (ga S K T j u)) 3 (0, c) ⟨rfl, fr53.rf, fun j u hj => by omega⟩ (fun i z hi hI => by
    obtain ⟨a, c1⟩ := z
    dsimp only at hI
    obtain ⟨rfl, f, hg⟩ := hI
    have g3 : ¬ (3 : Int32) ≤ nI i := by rw [lit]; exact nI_ge hi (by omega)
    obtain ⟨⟨b, c2⟩, e, j1, j2, j3, j4⟩ := lp_walk (f := fun z : Int32 × Hp => f11_weighTurns_10_s (nI K) (nI T) (nI i) z.1 z.2) (fun u z => z.1 = nI u ∧ fr53 c z.2 ∧ (∀ j u, j < i → u < 10 → z.2.1 53 (10 * j + u) = nI (ga S K T j u)) ∧ ∀ v, v < u → z.2.1 53 (10 * i + v) = nI (ga S K T i v)) 10 (0, c1) ⟨rfl, f, hg, fun v hv => by omega⟩ (fun u z hu hI => by
      obtain ⟨b, h⟩ := z
      dsimp only at hI
      obtain ⟨rfl, f1, k1, k2⟩ := hI
      have C1 := hC.fr w0 f1.fr
      have e86 : ∀ (g : Nat) (h' : Hp), fr51 h h' → ga S K T i u = g → f11_weighTurns_10_s (nI K) (nI T) (nI i) (nI u) h = f11_weighTurns_86 (nI K) (nI T) (nI i) (nI u) (nI g) h' → ∃ s', f11_weighTurns_10_s (nI K) (nI T) (nI i) (nI u) h = some (.inl s') ∧ s'.1 = nI (u + 1) ∧ fr53 c s'.2 ∧ (∀ j u, j < i → u < 10 → s'.2.1 53 (10 * j + u) = nI (ga S K T j u)) ∧ ∀ v, v < u + 1 → s'.2.1 53 (10 * i + v) = nI (ga S K T i v) := by
        intro g h' fh eg ee
        refine ⟨(nI (u + 1), wI h' 53 (10 * i + u) (nI g)), ?_, rfl, ⟨fun q k n => (wI_o (by omega)).trans ((f1.t fh).1 q k n), (f1.t fh).2⟩, fun j v hj hv => ?_, fun v hv => ?_⟩
        · rw [ee]
          simp only [f11_weighTurns_86, gd, ten_i, inb_t (show 10 * i + u < 30 by omega) (by omega), ix_nI (show 10 * i + u < 2 ^ 31 by omega), if_true, lt, nI_1]
        · show (wI h' 53 (10 * i + u) (nI g)).1 53 (10 * j + v) = _
          rw [wI_o (by omega), fh.1 _ _ (by omega)]; exact k1 j v hj hv
        · show (wI h' 53 (10 * i + u) (nI g)).1 53 (10 * i + v) = _
          by_cases z : v = u
          · rw [z, wI_s, eg]
          · rw [wI_o (by omega), fh.1 _ _ (by omega)]; exact k2 v (by omega)
      by_cases q1 : T < u
      · obtain ⟨s', a1, a2, a3, a4, a5⟩ := e86 0 h fr51.rf (by unfold ga; rw [if_neg (by omega)]) (by
          simp only [f11_weighTurns_10_s, g10 hu, if_false, nI_lt q1 (show u < 2 ^ 31 by omega), if_true]; rfl)
        exact ⟨s', a1, a2, a3, a4, a5⟩
      · have q1' : ¬ nI T < nI u := nI_nlt (by omega) (by omega)
        by_cases q2 : S 0 0 ≤ i
        · obtain ⟨s', a1, a2, a3, a4, a5⟩ := e86 0 h fr51.rf (by unfold ga; rw [if_neg (by omega)]) (by
            simp only [f11_weighTurns_10_s, g10 hu, if_false, q1', C1.1, nI_le q2 (show i < 2 ^ 31 by omega), if_true]; rfl)
          exact ⟨s', a1, a2, a3, a4, a5⟩
        · have hiS : i < S 0 0 := by omega
          obtain ⟨c2, e4, f4, x4, l4⟩ := trial_ex w0 C1 hiS
          have w2 := (w0.2.2.2.2 i hiS).2.1
          have x5 : bxC (wdB u (bxS S i)) (psS S i) 51 (wI c2 51 5 (nI (min 99 (S 2 i + u)))) := x4.w rfl (fun _ => rfl) (fun e => absurd rfl e) rfl rfl (fun e => by omega) (fun _ => rfl) (fun e => by omega) (fun _ => rfl) (by omega)
          have f5 : fr51 h (wI c2 51 5 (nI (min 99 (S 2 i + u)))) := f4.tr fr51.w
          have F := (f1.t f5).fr
          have T5 := hT.fr hn F
          obtain ⟨c4, e6, f6⟩ := laugh_ex (K := K) (d := d50 S) w0 w (hC.fr w0 F) T5 (hL.f F) lM (show S 0 4 + K ≤ 12000 by have := w0.2.1; omega) (wf_wd (wf_bx w0 hiS)) x5 ((wI_o (by omega)).trans l4)
          obtain ⟨s', a1, a2, a3, a4, a5⟩ := e86 (gW S K i u) c4 (f5.tr f6) (by unfold ga; rw [if_pos (by omega)]) (by
            have z5 : c2.1 51 5 + nI u = nI (S 2 i + u) := by rw [x4.2.2.1, nI_add]; rfl
            simp only [f11_weighTurns_10_s, g10 hu, if_false, q1', C1.1, nI_ge hiS (show S 0 0 < 2 ^ 31 by omega), gd, inb_t (show i < 6 by omega) (by omega), if_true, ix_nI (show i < 2 ^ 31 by omega), e4, Option.bind_some, z5, min_99 (show S 2 i + u < 2 ^ 31 by omega), lt, isDampGoes_eq w1 T5, e6]
            rfl)
          exact ⟨s', a1, a2, a3, a4, a5⟩)
    dsimp only at j1 j2 j3 j4
    subst j1
    refine ⟨(nI (i + 1), c2), ?_, rfl, j2, fun j u hj hu => ?_⟩
    · simp only [f11_weighTurns_2_s, g3, if_false, f11_weighTurns_10]
      show lp _ (0, c1) = _
      rw [e]
      refine lp_inr (o := some _) ?_
      simp only [f11_weighTurns_10_s, f11_weighTurns_106, l10, if_true, Option.map_some, nI_1]
    · by_cases z : j = i
      · rw [z]; exact j4 u hu
      · exact j3 j u (by omega) hu)
  dsimp only at i1 i2 i3
  subst i1
  refine ⟨c1, ?_, i2, fun i u hi hu => i3 i u hi hu⟩
  rw [e]
  refine lp_inr (o := some _) ?_
  simp only [f11_weighTurns_2_s, show ((3 : Int32) ≤ nI 3) = True from by decide, if_true, Option.map_some]
/-- the first best of the codes below x -/
def bst (p : Nat → Bool) (f : Nat → Nat) : Nat → Option Nat
  | 0 => none
  | x + 1 => if p x then (match bst p f x with | none => some x | some y => if f y < f x then some x else some y) else bst p f x
theorem bst_skip {p : Nat → Bool} {f : Nat → Nat} {a : Nat} : ∀ d, (∀ x, a ≤ x → x < a + d → p x = false) → bst p f (a + d) = bst p f a
  | 0, _ => rfl
  | d + 1, h => by
    show (if p (a + d) then _ else bst p f (a + d)) = _
    rw [if_neg (by rw [h (a + d) (by omega) (by omega)]; decide)]
    exact bst_skip d (fun x h1 h2 => h x h1 (by omega))
def isB (p : Nat → Bool) (f : Nat → Nat) (N y : Nat) : Prop := y < N ∧ p y = true ∧ (∀ x, x < N → p x = true → f x ≤ f y) ∧ ∀ x, x < y → p x = true → f x < f y
theorem bst_some {p : Nat → Bool} {f : Nat → Nat} : ∀ N, (∀ y, bst p f N = some y → isB p f N y) ∧ (bst p f N = none → ∀ x, x < N → p x = false)
  | 0 => ⟨fun y h => (by cases h), fun _ x hx => (by omega)⟩
  | N + 1 => by
    obtain ⟨h1, h2⟩ := bst_some (p := p) (f := f) N
    cases hp : p N with
    | false =>
      have e : bst p f (N + 1) = bst p f N := by
        show (if p N then _ else bst p f N) = _
        rw [hp]; rfl
      rw [e]
      refine ⟨fun y hy => ?_, fun hy x hx => ?_⟩
      · obtain ⟨a1, a2, a3, a4⟩ := h1 y hy
        refine ⟨by omega, a2, fun x hx px => ?_, a4⟩
        by_cases z : x = N
        · rw [z, hp] at px; cases px
        · exact a3 x (by omega) px
      · by_cases z : x = N
        · rw [z]; exact hp
        · exact h2 hy x (by omega)
    | true =>
      have e : bst p f (N + 1) = (match bst p f N with | none => some N | some y => if f y < f N then some N else some y) := by
        show (if p N then _ else bst p f N) = _
        rw [hp]; rfl
      rw [e]
      cases hb : bst p f N with
      | none =>
        refine ⟨fun y hy => ?_, fun hy => (by cases hy)⟩
        have : N = y := Option.some.inj hy
        subst this
        have k := h2 hb
        refine ⟨by omega, hp, fun x hx px => ?_, fun x hx px => ?_⟩
        · by_cases z : x = N
          · rw [z]; exact Nat.le_refl _
          · rw [k x (by omega)] at px; cases px
        · rw [k x (by omega)] at px; cases px
      | some y0 =>
        obtain ⟨a1, a2, a3, a4⟩ := h1 y0 hb
        dsimp only
        by_cases q : f y0 < f N
        · rw [if_pos q]
          refine ⟨fun y hy => ?_, fun hy => (by cases hy)⟩
          have : N = y := Option.some.inj hy
          subst this
          refine ⟨by omega, hp, fun x hx px => ?_, fun x hx px => ?_⟩
          · by_cases z : x = N
            · rw [z]; exact Nat.le_refl _
            · have := a3 x (by omega) px; omega
          · have := a3 x (by omega) px; omega
        · rw [if_neg q]
          refine ⟨fun y hy => ?_, fun hy => (by cases hy)⟩
          have : y0 = y := Option.some.inj hy
          subst this
          refine ⟨by omega, a2, fun x hx px => ?_, a4⟩
          by_cases z : x = N
          · rw [z]; omega
          · exact a3 x (by omega) px
theorem isB_one {p : Nat → Bool} {f : Nat → Nat} {N y z : Nat} (h : isB p f N y) (h' : isB p f N z) : y = z := by
  obtain ⟨a1, a2, a3, a4⟩ := h
  obtain ⟨b1, b2, b3, b4⟩ := h'
  rcases Nat.lt_trichotomy y z with q | q | q
  · have := b4 y q a2; have := a3 z b1 b2; omega
  · exact q
  · have := a4 z q b2; have := b3 y a1 a2; omega
theorem bst_of {p : Nat → Bool} {f : Nat → Nat} {N y : Nat} (h : isB p f N y) : bst p f N = some y := by
  obtain ⟨h1, h2⟩ := bst_some (p := p) (f := f) N
  cases e : bst p f N with
  | none => have := h2 e y h.1; rw [h.2.1] at this; cases this
  | some z => rw [isB_one (h1 z e) h]
