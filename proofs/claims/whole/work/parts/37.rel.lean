theorem rc_row {σ : SO} {τ : SM} (a b c : Int32) (h8 : Rl σ τ) : wp_X3_row a b c σ (fun r1 σ1 => wp_X4_row a b c τ (fun r2 τ2 => r1 = r2 ∧ Rl σ1 τ2)) := by
  obtain ⟨h, hS⟩ := id h8
  obtain ⟨⟨p, xx, yy, ff, gg⟩, ss⟩ := σ
  obtain ⟨n, x, y, f, g, m, r, hn, hx1, hx, hy1, hy, hT, hM, e1, rfl⟩ := h
  cases e1
  unfold wp_X3_row wp_X4_row
  have i1 : ∀ {post : Int32 → Prop}, (nI 1 ≤ a ∧ a ≤ nI 8) → post 1 → wp_X4_in a.toInt64 (1 : Int64) (8 : Int64) post := fun z h => in_t (b := nI 1) (c := nI 8) rfl rfl z h
  have i2 : ∀ {post : Int32 → Prop} {v : Int32}, (nI 1 ≤ v ∧ v ≤ nI 9) → post 1 → wp_X4_in v.toInt64 (1 : Int64) (9 : Int64) post := fun z h => in_t (b := nI 1) (c := nI 9) rfl rfl z h
  by_cases ha : nI 1 ≤ a ∧ a ≤ nI 8
  · refine isWithin_t ha ⟨fun _ => ?_, fun q => absurd q z10⟩
    by_cases hb : nI 1 ≤ b ∧ b ≤ nI 9
    · refine isWithin_t hb ⟨fun q => absurd q z10, fun _ => ?_⟩
      by_cases hc : nI 1 ≤ c ∧ c ≤ nI 9
      · refine isWithin_t hc ⟨fun _ => ?_, fun q => absurd q z10⟩
        rcases rng_case a (lo := 1) (hi := 8) (by omega) (by omega) with ⟨a', a1, a2, rfl⟩ | z
        · rcases rng_case b (lo := 1) (hi := 9) (by omega) (by omega) with ⟨b', b1, b2, rfl⟩ | z
          · rcases rng_case c (lo := 1) (hi := 9) (by omega) (by omega) with ⟨c', c1, c2, rfl⟩ | z
            · obtain ⟨a', rfl⟩ : ∃ q, a' = q + 1 := ⟨a' - 1, by omega⟩
              refine become_sp b2 c2 (fun q1 q2 => ?_) (fun f2 g2 hT2 => ?_)
              · have e1 : x = b' := (nI_eq (by omega) (by omega)).mp q1
                have e2 : y = c' := (nI_eq (by omega) (by omega)).mp q2
                subst e1; subst e2
                exact hT
              · unfold wp_X0_countStates
                refine i1 ha ⟨fun q => absurd q z10, fun _ => i2 hb ⟨fun q => absurd q z10, fun _ => i2 hc ⟨fun _ => ?_, fun q => absurd q z10⟩⟩⟩
                exact fills_sp b2 c2 (fun m2 hM2 => ⟨rfl, ⟨a', b', c', f2, g2, m2, r, by omega, b1, b2, c1, c2, hT2, hM2, rfl, rfl⟩, hS⟩)
            · exact absurd hc z
          · exact absurd hb z
        · exact absurd ha z
      · refine isWithin_f hc ⟨fun q => absurd rfl q, fun _ => i1 ha ⟨fun q => absurd q z10, fun _ => i2 hb ⟨fun q => absurd q z10, fun _ => ?_⟩⟩⟩
        exact in_f (b := nI 1) (c := nI 9) rfl rfl hc ⟨fun q => absurd rfl q, fun _ => ⟨rfl, h8⟩⟩
    · refine isWithin_f hb ⟨fun _ => i1 ha ⟨fun q => absurd q z10, fun _ => ?_⟩, fun q => absurd rfl q⟩
      exact in_f (b := nI 1) (c := nI 9) rfl rfl hb ⟨fun _ => ⟨rfl, h8⟩, fun q => absurd rfl q⟩
  · refine isWithin_f ha ⟨fun q => absurd rfl q, fun _ => ?_⟩
    exact in_f (b := nI 1) (c := nI 8) rfl rfl ha ⟨fun _ => ⟨rfl, h8⟩, fun q => absurd rfl q⟩
theorem Rl_init : wp_X0_become (1 : Int32) (1 : Int32) (1 : Int32) ((0 : Int32), (0 : Int32), (0 : Int32), (fun _ => (0 : Int64)), (fun _ => (0 : Int64))) (fun σ => wp_X4_fills ((1 : Int32), (1 : Int32), (1 : Int32), (fun _ => (0 : Int64)), (0 : Int32), (0 : Int32), (1 : Int64), (fun _ => (0 : Int32)), (fun _ => (0 : Int32)), (0 : Int32), (0 : Int32), (0 : Int32), (0 : Int32)) (fun τ => Rl (σ, ((0 : Int32), (0 : Int32), (0 : Int32), (0 : Int32), (0 : Int32), (0 : Int32), (0 : Int32), (0 : Int32))) τ)) := by
  refine become_sp (n := 1) (x := 1) (y := 1) (by omega) (by omega) (fun q => absurd q (by decide)) (fun f g hT => ?_)
  refine fills_sp (x := 1) (y := 1) (by omega) (by omega) (fun m hM => ⟨⟨0, 1, 1, f, g, m, _, by omega, by omega, by omega, by omega, by omega, hT, hM, rfl, rfl⟩, Or.inl ⟨rfl, rfl⟩⟩)
theorem h_flow9 (σ : SO) (τ : SM) (a b : Int32) (h : Rl σ τ) : wp_X3_flow a b σ (fun r1 => wp_X4_flow a b τ (fun r2 τ2 => r1 = r2 ∧ Rl σ τ2)) := by
  refine rc_flow (Q := fun τ2 => RS σ.2 τ2.2.2.2.2) (fun z => ?_) a b h.1
  obtain ⟨h1, h2⟩ := h
  rcases h2 with h2 | ⟨P, lot, op, A, q1, q2, q3, q4, hC, ma, be, ldt, hm, e⟩
  · exact Or.inl h2
  · refine Or.inr ⟨P, lot, op, A, q1, q2, q3, q4, hC, ma, be, z, hm, ?_⟩
    obtain ⟨n1, x1, y1, m1, r⟩ := τ
    dsimp only at e ⊢
    subst e
    rfl
