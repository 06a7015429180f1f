/-! What holds if a function answers: the reference's row of stolen boxes stays 0 or 1. -/
def Pt {ρ : Type} (x : Option ρ) (K : ρ → Prop) : Prop := ∀ r, x = some r → K r
theorem pi_some {ρ : Type} {r : ρ} {K : ρ → Prop} : Pt (some r) K ↔ K r := ⟨fun h => h r rfl, fun h r' e => by cases e; exact h⟩
theorem pi_bind {ρ σ : Type} {x : Option σ} {f : σ → Option ρ} {K : ρ → Prop} : Pt (x.bind f) K ↔ Pt x (fun r => Pt (f r) K) := by
  cases x with
  | none => exact ⟨fun _ r e => (by cases e), fun _ r e => by cases e⟩
  | some y => exact ⟨fun h r e => by cases e; exact h, fun h => h y rfl⟩
theorem pi_map {ρ σ : Type} {x : Option σ} {f : σ → ρ} {K : ρ → Prop} : Pt (x.map f) K ↔ Pt x (fun r => K (f r)) := by
  cases x with
  | none => exact ⟨fun _ r e => (by cases e), fun _ r e => by cases e⟩
  | some y => exact ⟨fun h r e => by cases e; exact h _ rfl, fun h r e => by cases e; exact h y rfl⟩
theorem pi_gd {ρ : Type} {b : Bool} {k : Option ρ} {K : ρ → Prop} : Pt (gd b k) K ↔ (b = true → Pt k K) := by
  cases b with
  | false => exact ⟨fun _ e => (by cases e), fun _ r e => by cases e⟩
  | true => exact ⟨fun h _ => h, fun h => h rfl⟩
theorem pi_lt {ρ α : Type} {a : α} {f : α → Option ρ} {K : ρ → Prop} : Pt (lt a f) K ↔ Pt (f a) K := Iff.rfl
theorem pi_ite {ρ : Type} {c : Prop} {dc : Decidable c} {a b : Option ρ} {K : ρ → Prop} : Pt (@ite _ c dc a b) K ↔ (c → Pt a K) ∧ (¬ c → Pt b K) := by
  by_cases hc : c
  · rw [if_pos hc]; exact ⟨fun h => ⟨fun _ => h, fun n => absurd hc n⟩, fun h => h.1 hc⟩
  · rw [if_neg hc]; exact ⟨fun h => ⟨fun n => absurd n hc, fun _ => h⟩, fun h => h.2 hc⟩
theorem pt_any {ρ : Type} {x : Option ρ} {K : ρ → Prop} (h : ∀ r, K r) : Pt x K := fun r _ => h r
theorem pt_mono {ρ : Type} {x : Option ρ} {P Q : ρ → Prop} (h : Pt x P) (hq : ∀ r, P r → Q r) : Pt x Q := fun r e => hq r (h r e)
theorem pt_lp {σ ρ : Type} {f : σ → Option (σ ⊕ ρ)} {I : σ → Prop} {Q : ρ → Prop} (hs : ∀ s, I s → Pt (f s) (KS I Q)) (s : σ) (hi : I s) : Pt (lp f s) Q := by
  intro r e
  obtain ⟨n, hn⟩ := lp_to e
  clear e
  induction n generalizing s with
  | zero => cases hn
  | succ n ih =>
    unfold lpN at hn
    have k := hs s hi
    cases e : f s with
    | none => rw [e] at hn; cases hn
    | some o =>
      rw [e] at hn
      have k := k o e
      cases o with
      | inl s' => exact ih s' k hn
      | inr r' => cases hn; exact k
section BZ
variable {h : Hp}
theorem bzM.w (b : bzM h) {q k : Nat} {v : Int32} (hq : q ≠ 28 ∨ bz v = true) : bzM (wI h q k v) := fun j hj => by
  by_cases z : 28 = q ∧ j = k
  · obtain ⟨z1, z2⟩ := z
    subst z1; subst z2
    rw [wI_s]
    rcases hq with n | n
    · exact absurd rfl n
    · exact n
  · rw [wI_o z]; exact b j hj
theorem bz_take {p : Nat} {v : Int32} (b : bzM h) : Pt (f12_take p v h) bzM := by
  unfold f12_take f12_take_2
  refine pt_lp (I := fun z : Int32 × Hp => bzM z.2) (fun z b => ?_) (0, h) b
  simp only [f12_take_2_s, f12_take_41, pi_ite, pi_gd, pi_lt, pi_some, KS]
  have n24 : ∀ {k : Nat} {v : Int32}, bzM (wI z.2 24 k v) := fun {k v} => bzM.w b (Or.inl (by decide))
  exact ⟨fun _ => b, fun _ _ _ _ => ⟨fun _ _ b1 _ _ => (n24.w (Or.inr b1)).w (Or.inl (by decide)), fun _ _ b0 _ _ => (n24.w (Or.inr b0)).w (Or.inl (by decide))⟩⟩
theorem bz_put {p : Nat} {v : Int32} (hp : p ≠ 28) (b : bzM h) : Pt (f12_put p v h) bzM := by
  unfold f12_put f12_put_2
  refine pt_lp (I := fun z : Int32 × Hp => bzM z.2) (fun z b => ?_) (0, h) b
  simp only [f12_put_2_s, f12_put_40, pi_ite, pi_gd, pi_lt, pi_some, KS]
  exact ⟨fun _ => b, fun _ _ _ _ => ⟨fun _ _ _ _ => ((b.w (Or.inl hp)).w (Or.inl hp)).w (Or.inl hp), fun _ _ _ _ => ((b.w (Or.inl hp)).w (Or.inl hp)).w (Or.inl hp)⟩⟩
theorem bz_rem49 (b : bzM h) : Pt (f12_remember_49 h) bzM := by
  simp only [f12_remember_49, pi_bind, pi_lt, pi_some]
  exact pt_mono (bz_put (by decide) b) (fun r k => k.w (Or.inl (by decide)))
theorem bz_rem (b : bzM h) : Pt (f12_remember h) bzM := by
  unfold f12_remember
  rw [pi_ite]
  refine ⟨fun _ => ?_, fun _ => bz_rem49 b⟩
  unfold f12_remember_11
  refine pt_lp (I := fun z : Int32 × Hp => bzM z.2) (fun z b => ?_) (0, h) b
  simp only [f12_remember_11_s, f12_remember_39, pi_ite, pi_gd, pi_lt, pi_some, pi_map, KS]
  exact ⟨fun _ => bz_rem49 (b.w (Or.inl (by decide))), fun _ _ _ => b.w (Or.inl (by decide))⟩
theorem bz_0 (b : bzM h) : bzM (wI h 0 2 0) := b.w (Or.inl (by decide))
theorem bz_wind (b : bzM h) (x y : Int32) : Pt (f12_wind x y h) (fun r => bzM r.2) := by
  have b0 := bz_0 b
  have k : Pt (f12_remember (wI h 0 2 0)) bzM := bz_rem b0
  simp only [f12_wind, f12_wind_83, pi_bind, pi_ite, pi_gd, pi_lt, pi_some]
  refine pt_any (fun r => ⟨fun _ => b0, fun _ => pt_any (fun r2 => ⟨fun _ => b0, fun _ _ => ⟨fun _ _ => ⟨fun _ => b0, fun _ => pt_mono k (fun g bg _ => ⟨fun _ _ _ _ => bg.w (Or.inl (by decide)), fun _ _ _ => bg.w (Or.inl (by decide))⟩)⟩, fun _ => b0⟩⟩)⟩)
theorem bz_steal (b : bzM h) (x y : Int32) : Pt (f12_steal x y h) (fun r => bzM r.2) := by
  have b0 := bz_0 b
  have k : Pt (f12_remember (wI h 0 2 0)) bzM := bz_rem b0
  simp only [f12_steal, pi_bind, pi_ite, pi_gd, pi_lt, pi_some]
  refine pt_any (fun r => ⟨fun _ => b0, fun _ _ => ⟨fun _ => b0, fun _ => pt_mono k (fun g bg _ bv => bg.w (Or.inr bv))⟩⟩)
theorem bz_tooth (b : bzM h) (x y z : Int32) : Pt (f12_tooth x y z h) (fun r => bzM r.2) := by
  have b0 := bz_0 b
  have k : Pt (f12_remember (wI h 0 2 0)) bzM := bz_rem b0
  simp only [f12_tooth, pi_bind, pi_ite, pi_gd, pi_lt, pi_some]
  refine pt_any (fun r => ⟨fun _ => b0, fun _ => pt_any (fun r2 => ⟨fun _ => b0, fun _ _ => pt_any (fun r3 => ⟨fun _ => b0, fun _ => pt_mono k (fun g bg _ _ => bg.w (Or.inl (by decide)))⟩)⟩)⟩)
theorem bz_undo (b : bzM h) : Pt (f12_undo h) (fun r => bzM r.2) := by
  have b0 := bz_0 b
  simp only [f12_undo, pi_bind, pi_ite, pi_lt, pi_some]
  exact ⟨fun _ => b0, fun _ => bz_take (b0.w (Or.inl (by decide)))⟩
theorem bzM.wJ (b : bzM h) {q k : Nat} {v : Int64} : bzM (wJ h q k v) := b
theorem bz_back (b : bzM h) : Pt (f12_back h) (fun r => bzM r.2) := by
  have b0 := bz_0 b
  simp only [f12_back, pi_bind, pi_ite, pi_lt, pi_some]
  refine ⟨fun _ => b0, fun _ => pt_mono (bz_take b0) (fun g bg => ?_)⟩
  unfold f12_back_25
  refine pt_lp (I := fun z : Int32 × Hp => bzM z.2) (fun z b => ?_) (0, g) bg
  simp only [f12_back_25_s, f12_back_79, pi_ite, pi_gd, pi_lt, pi_some, pi_map, KS]
  exact ⟨fun _ _ _ _ _ _ => (bzM.wJ ((b.w (Or.inl (by decide))).w (Or.inl (by decide)))).w (Or.inl (by decide)), fun _ _ _ _ _ _ _ => ((b.w (Or.inl (by decide))).w (Or.inl (by decide))).w (Or.inl (by decide))⟩
end BZ
