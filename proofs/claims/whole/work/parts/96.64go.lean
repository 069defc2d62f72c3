/-! go: the call. -/
section Xo
variable {P : gc_Pr} {d : Nat} {s t u : gc_St} {a : gA} {L lv v : Nat}
theorem c_go (hP : gc_Cl P) (hm : gc_Mo P) (hd : 20 ≤ d) (hX : XI a L lv v s) {e : Int32} : step2 P d v s 149 [.ref 0, .int e] 287 [.ref 67, .int e, gc_u, gc_u] := by
  obtain ⟨hA, hC, hR, hT⟩ := id hX
  obtain ⟨_, _, hk0⟩ := cq_b hC.1
  obtain ⟨w1, w2, w3⟩ := hC.2.2.2.2.1
  obtain ⟨i1, i2, i3⟩ := hA.2.2.2.2
  cases hK : aK a with
  | nil =>
    rw [hK] at w1
    refine ⟨0, 0, by decide, sp_goN hP hm (by omega) w1 (pure2 hX _ fun Q q => ?_)⟩
    have m1 := hR.2.2.2.2.1.1
    rw [hK] at m1
    exact sp_mgoN hP hm m1 q
  | cons l K =>
    rw [hK] at w1 w3 i1 i3
    have refm : ∀ t, XI a L lv v t → mP 77 111 (l :: K) t := fun t ht => by
      have := ht.2.2.1.2.2.2.2.1.1
      rw [hK] at this
      exact this
    refine ⟨0, 0, by decide, sp_goC hP hm (by omega) hC.1.1 w1 i1 w2 i2 w3 (fun t hb t1 => ⟨_, rfl, fr_n t1, ?_⟩) (fun t hb t1 t2 t3 => ⟨_, rfl, fr_n t1, ?_⟩)⟩
    · have ht := XI_32 hX t1
      exact sp_mgo hP hm (by omega) ht.2.2.1.1 (refm t ht) ht.2.2.1.2.2.2.2.1.2 i2 i1 i3 (fun u _ u1 u2 => xR_of (XI_RA ht u1 u2) (fr_n u2)) (fun u hb' => absurd (hb.symm.trans hb') (by decide))
    · have hbe : BW 40 (gc_be s) = false := bf fun z => by
        have := bB40 _ z
        rcases hC.2.2.2.2.2.2.2.1 with y | ⟨y, _⟩ <;> omega
      have hq := cq_W (Or.inr rfl) hC.1 t1
      have hcx := cx_fr t1 rfl hbe
      have kr := RI_kR hR (kR_cx hcx (fun q k z => by have := aA40 q k z; omega) (fun x z => by have := bB40 x z; omega))
      have m1 := kr.2.2.2.2.1.1
      rw [hK] at m1
      refine sp_mgo hP hm (by omega) kr.1 m1 kr.2.2.2.2.1.2 i2 i1 i3 (fun u hb' => absurd (hb.symm.trans hb') (by decide)) (fun u _ u1 u2 u3 u4 => ?_)
      have ii := wkI_to hk0 (a := e) i1
      refine xR_of (XI_K hX hq hcx aA40 bB40 t3 t2 (vK_fr (Or.inr rfl) (vK_to hk0 hC.1.1.2 i2 i1 w3) t1) u1 u2 u4 u3 ii.1 i2 (fun x hx => ?_)) (fr_n u2)
      exact wkB_step hk0 i1 i3 (ii.2.2 x hx)
end Xo
