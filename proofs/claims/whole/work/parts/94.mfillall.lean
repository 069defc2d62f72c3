/-! The reference: the table of the sets, the best of them. -/
section Rb
variable {P : gc_Pr} {d : Nat} {s : gc_St} {Q : gc_TQ} {W : ld_W} {lv o p st b kc : Nat} {h : Nat × Nat × Nat}
/-- the cells below the n-th -/
def cD (W : ld_W) (o : Nat) (h : Nat × Nat × Nat) (n : Nat) (s : gc_St) : Prop := ∀ S st b, S < 2 ^ ld_c W → st < ld_N W → st_in st h.1 = true → b < 2 ^ ld_b W → ac S st b < n → (gc_I s 110 (ac S st b) ≠ 0 ↔ cA W o S st b)
theorem rw_110 {t : gc_St} (hT : rw_T W lv o s) (g : fr A0 (Bm 110) s t) : rw_T W lv o t := rw_fr hT g (fun _ _ z => absurd z (by unfold A0; decide)) (fun _ z => RB_iff.mpr (Or.inr (Bm_iff.mp z))) rfl rfl
theorem ld_64 (hok : ld_ok W) : 2 ^ ld_c W ≤ 64 := Nat.le_trans (Nat.pow_le_pow_right (by decide) hok.1.2.2.2.1) (by decide)
theorem ld_8 (hok : ld_ok W) : 2 ^ ld_b W ≤ 8 := Nat.le_trans (Nat.pow_le_pow_right (by decide) hok.1.2.2.1) (by decide)
theorem sp_fillAll (hP : gc_Cl P) (hm : gc_Mo P) (hd : 3 ≤ d) (hT : rw_T W lv o s) (hF : gc_F s 67 49 = nI h.1) (hh : h.1 < ld_N W)
    (hQ : ∀ t, fr A0 (Bm 110) s t → cD W o h (2048 * 2 ^ ld_c W) t → Q none t) : gc_T P d 0 0 276 0 [.ref 67, gc_u, gc_u, gc_u] [] s Q := by
  have hok := hT.1.1.2.2
  have hc6 := hok.1.2.2.2.1
  have hb3 := hok.1.2.2.1
  have hN256 := ld_N_le hok
  have h64 := ld_64 hok
  have h8 := ld_8 hok
  have hlv := hT.1.1.1
  have shc : (1 : Int32) <<< (nI (ld_c W) &&& 31) = nI (2 ^ ld_c W) := by
    rw [show (1 : Int32) = nI 1 from rfl, st_shl (by omega) (by omega), Nat.one_mul]
  have shb : (1 : Int32) <<< (nI (ld_b W) &&& 31) = nI (2 ^ ld_b W) := by
    rw [show (1 : Int32) = nI 1 from rfl, st_shl (by omega) (by omega), Nat.one_mul]
  refine b_X11_fillAll_0 hP hm ?_
  have oS : ∀ m S, S + m = 2 ^ ld_c W → ∀ t (l2 l3 : Value), fr A0 (Bm 110) s t → cD W o h (ac S 0 0) t → gc_T P d 0 0 276 2 [.ref 67, .int (nI S), l2, l3] [] t Q := by
    intro m
    induction m with
    | zero =>
      intro S hS t l2 l3 g hD
      have hTt := rw_110 hT g
      refine b_X11_fillAll_2 hP hm ?_
      rw [hTt.1.1.2.1, nI_clamp (by omega), hTt.1.2.1.2.2.2.1, shc]
      refine ⟨vp_in_nI hlv (by decide), pk_le (2 ^ ld_c W) S (fun _ => hQ t g ?_) (fun z => by omega)⟩
      unfold ac at hD
      rw [show 2048 * S + 8 * 0 + 0 = 2048 * 2 ^ ld_c W by omega] at hD
      exact hD
    | succ m ih =>
      intro S hS t l2 l3 g hD
      have hTt := rw_110 hT g
      refine b_X11_fillAll_2 hP hm ?_
      rw [hTt.1.1.2.1, nI_clamp (by omega), hTt.1.2.1.2.2.2.1, shc]
      refine ⟨vp_in_nI hlv (by decide), pk_le (2 ^ ld_c W) S (fun z => by omega) (fun _ => ?_)⟩
      have oT : ∀ m1 st, st + m1 = ld_N W → ∀ t (l3 : Value), fr A0 (Bm 110) s t → cD W o h (ac S st 0) t → gc_T P d 0 0 276 19 [.ref 67, .int (nI S), .int (nI st), l3] [] t Q := by
        intro m1
        induction m1 with
        | zero =>
          intro st hst t l3 g hD
          have hTt := rw_110 hT g
          refine b_X11_fillAll_19 hP hm ⟨by omega, sp_stocksAll hP hm hTt.1 (pk_le (ld_N W) st (fun _ => ?_) (fun z => by omega))⟩
          rw [nI_1]
          refine ih (S + 1) (by omega) t _ _ g fun S' st' b' k1 k2 k3 k4 k5 => hD S' st' b' k1 k2 k3 k4 ?_
          unfold ac at k5 ⊢
          omega
        | succ m1 ih1 =>
          intro st hst t l3 g hD
          have hTt := rw_110 hT g
          have leave : ∀ t (l3 : Value), fr A0 (Bm 110) s t → cD W o h (ac S (st + 1) 0) t → gc_T P d 0 0 276 114 [.ref 67, .int (nI S), .int (nI st), l3] [] t Q := by
            intro t l3 g hD
            refine b_X11_fillAll_114 hP hm ?_
            rw [nI_1]
            exact ih1 (st + 1) (by omega) t l3 g hD
          refine b_X11_fillAll_19 hP hm ⟨by omega, sp_stocksAll hP hm hTt.1 (pk_le (ld_N W) st (fun z => by omega) (fun _ => ⟨by omega, ?_⟩))⟩
          rw [fr_F g rfl, hF]
          refine sp_less hP hm (by omega) (by omega) ?_
          unfold st_less
          cases hin : st_in st h.1 with
          | false =>
            rw [if_neg (by decide)]
            refine ⟨fun y => absurd rfl y, fun _ => leave t _ g fun S' st' b' k1 k2 k3 k4 k5 => hD S' st' b' k1 k2 k3 k4 ?_⟩
            have hne : st' ≠ st := by
              intro e
              rw [e, hin] at k3
              exact absurd k3 (by decide)
            unfold ac at k5 ⊢
            omega
          | true =>
            rw [if_pos rfl]
            refine ⟨fun _ => ?_, fun y => absurd y (m1_ne (by omega))⟩
            have oB : ∀ m2 b, b + m2 = 2 ^ ld_b W → ∀ t, fr A0 (Bm 110) s t → cD W o h (ac S st b) t → gc_T P d 0 0 276 44 [.ref 67, .int (nI S), .int (nI st), .int (nI b)] [] t Q := by
              intro m2
              induction m2 with
              | zero =>
                intro b hb t g hD
                have hTt := rw_110 hT g
                refine b_X11_fillAll_44 hP hm ?_
                rw [hTt.1.1.2.1, nI_clamp (by omega), hTt.1.2.1.2.2.1, shb]
                refine ⟨vp_in_nI hlv (by decide), pk_le (2 ^ ld_b W) b (fun _ => leave t _ g fun S' st' b' k1 k2 k3 k4 k5 => hD S' st' b' k1 k2 k3 k4 ?_) (fun z => by omega)⟩
                unfold ac at k5 ⊢
                omega
              | succ m2 ih2 =>
                intro b hb t g hD
                have hTt := rw_110 hT g
                have hilt : ac S st b < 131072 := by
                  unfold ac
                  omega
                have next : ∀ x : Int32, (x = 0 ∨ x = 1) → (x ≠ 0 ↔ cA W o S st b) → gc_T P d 0 0 276 107 [.ref 67, .int (nI S), .int (nI st), .int (nI b)] [.int x, .int (((2048 : Int32) * nI S + (8 : Int32) * nI st) + nI b), .ref 110] t Q := by
                  intro x hx hxc
                  refine b_X11_fillAll_107 hP hm ?_
                  rw [st_lit 2048, st_lit 8, pk_mul, pk_mul, nI_add, nI_add, show 2048 * S + 8 * st + b = ac S st b from rfl, nI_clamp (by omega), show vp_nar .boolean x = x by rcases hx with rfl | rfl <;> rfl, nI_1]
                  refine ⟨vp_in_nI hilt (by decide), ih2 (b + 1) (by omega) _ (fr_wI (Bm_iff.mpr rfl) g) fun S' st' b' k1 k2 k3 k4 k5 => ?_⟩
                  by_cases e : ac S' st' b' = ac S st b
                  · have e3 : S' = S ∧ st' = st ∧ b' = b := by
                      unfold ac at e
                      omega
                    rw [e3.1, e3.2.1, e3.2.2, I_eq]
                    exact hxc
                  · rw [I_ne _ _ (Or.inr e)]
                    exact hD S' st' b' k1 k2 k3 k4 (by unfold ac at k5 e ⊢; omega)
                refine b_X11_fillAll_44 hP hm ?_
                rw [hTt.1.1.2.1, nI_clamp (by omega), hTt.1.2.1.2.2.1, shb]
                refine ⟨vp_in_nI hlv (by decide), pk_le (2 ^ ld_b W) b (fun z => by omega) (fun _ => ⟨fun hS0 => ⟨by omega, ?_⟩, fun hS0 => ⟨fun e => next 0 (Or.inl rfl) ?_, fun e => next 1 (Or.inr rfl) ?_⟩⟩)⟩
                · have hne : S ≠ 0 := fun e => hS0 (by rw [e]; rfl)
                  obtain ⟨c, c1, c2, c3⟩ := lw_bit S (by omega) hne
                  have hcc : c < ld_c W := lw_ge S (by omega) (ld_c W) (by omega) (by omega) c c1 c3
                  have hle := (bit_split c2 c3).1
                  have hpos : 0 < 2 ^ c := Nat.pow_pos (by decide)
                  have hcT : cT W o h (S - 2 ^ c) t := fun st' b' k1 k2 k3 => hD (S - 2 ^ c) st' b' (by omega) k1 k2 k3 (by have := p8 hb3 k3; unfold ac; omega)
                  refine sp_firstPart hP hm (by omega) hTt (by omega) hcc c2 c3 hcT (by omega) hin (by omega) (fun k hk => ⟨fun y => ?_, fun _ => next 1 (Or.inr rfl) ⟨fun _ => (cA_low hcc c2 c3).mpr ⟨k, hk.1⟩, fun _ => by decide⟩⟩) (fun hno => ⟨fun _ => next 0 (Or.inl rfl) ⟨fun y => absurd rfl y, fun y => ?_⟩, fun y => absurd rfl y⟩)
                  · have := hk.1.2.1
                    exact absurd y (m1_ne (by omega))
                  · obtain ⟨k, hk⟩ := (cA_low hcc c2 c3).mp y
                    exact absurd hk (hno k)
                · rw [show (0 : Int32) = nI 0 from rfl, nI_eq (by omega) (by omega)] at hS0 e
                  rw [hS0, cA_0]
                  exact ⟨fun y => absurd rfl y, fun y => absurd y e⟩
                · rw [show (0 : Int32) = nI 0 from rfl, nI_eq (by omega) (by omega)] at hS0 e
                  rw [hS0, cA_0]
                  exact ⟨fun _ => e, fun _ => by decide⟩
            exact oB (2 ^ ld_b W) 0 (by omega) t g hD
      exact oT (ld_N W) 0 (by omega) t _ g hD
  exact oS (2 ^ ld_c W) 0 (by omega) s _ _ (fr_refl s) fun S st b _ _ _ _ k5 => absurd k5 (by unfold ac; omega)
end Rb
