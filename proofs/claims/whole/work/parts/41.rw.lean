/-! Reads over writes. -/
theorem rw_F_wF (s : gc_St) (q : Nat) (k : Nat) (x : Int32) (q2 k2 : Nat) : gc_F (gc_wF s q k x) q2 k2 = if q2 = q then (if k2 = k then x else gc_F s q2 k2) else gc_F s q2 k2 := by
  unfold gc_F gc_wF va_up
  by_cases e : q2 = q
  · subst e; simp
  · simp [e]
theorem rw_F_wI (s : gc_St) (a : Nat) (i : Nat) (x : Int32) : gc_F (gc_wI s a i x) = gc_F s := rfl
theorem rw_F_wR (s : gc_St) (a : Nat) (f : Nat → Int32) : gc_F (gc_wR s a f) = gc_F s := rfl
theorem rw_F_wJ (s : gc_St) (a : Nat) (i : Nat) (x : Int64) : gc_F (gc_wJ s a i x) = gc_F s := rfl
theorem rw_F_wY (s : gc_St) (i : Nat) (b : Nat) : gc_F (gc_wY s i b) = gc_F s := rfl
theorem rw_F_wln (s : gc_St) (x : Int64) : gc_F (gc_wln s x) = gc_F s := rfl
theorem rw_F_wlw (s : gc_St) (a : Nat) : gc_F (gc_wlw s a) = gc_F s := rfl
theorem rw_F_wdr (s : gc_St) (a : Nat) : gc_F (gc_wdr s a) = gc_F s := rfl
theorem rw_F_wrl (s : gc_St) (o : Option Nat) : gc_F (gc_wrl s o) = gc_F s := rfl
theorem rw_F_wbe (s : gc_St) (a : Nat) : gc_F (gc_wbe s a) = gc_F s := rfl
theorem rw_F_nwI (s : gc_St) (z : Nat) : gc_F (gc_nwI s z) = gc_F s := rfl
theorem rw_I_wF (s : gc_St) (q : Nat) (k : Nat) (x : Int32) : gc_I (gc_wF s q k x) = gc_I s := rfl
theorem rw_I_wI (s : gc_St) (a : Nat) (i : Nat) (x : Int32) (a2 j : Nat) : gc_I (gc_wI s a i x) a2 j = if a2 = a then (if j = i then x else gc_I s a2 j) else gc_I s a2 j := by
  unfold gc_I gc_wI va_up upd
  by_cases e : a2 = a
  · subst e; simp
  · simp [e]
theorem rw_I_wR (s : gc_St) (a : Nat) (f : Nat → Int32) (a2 j : Nat) : gc_I (gc_wR s a f) a2 j = if a2 = a then f j else gc_I s a2 j := by
  unfold gc_I gc_wR va_up
  by_cases e : a2 = a
  · subst e; simp
  · simp [e]
theorem rw_I_wJ (s : gc_St) (a : Nat) (i : Nat) (x : Int64) : gc_I (gc_wJ s a i x) = gc_I s := rfl
theorem rw_I_wY (s : gc_St) (i : Nat) (b : Nat) : gc_I (gc_wY s i b) = gc_I s := rfl
theorem rw_I_wln (s : gc_St) (x : Int64) : gc_I (gc_wln s x) = gc_I s := rfl
theorem rw_I_wlw (s : gc_St) (a : Nat) : gc_I (gc_wlw s a) = gc_I s := rfl
theorem rw_I_wdr (s : gc_St) (a : Nat) : gc_I (gc_wdr s a) = gc_I s := rfl
theorem rw_I_wrl (s : gc_St) (o : Option Nat) : gc_I (gc_wrl s o) = gc_I s := rfl
theorem rw_I_wbe (s : gc_St) (a : Nat) : gc_I (gc_wbe s a) = gc_I s := rfl
theorem rw_I_nwI (s : gc_St) (z : Nat) (a2 j : Nat) : gc_I (gc_nwI s z) a2 j = if a2 = 116 + gc_n s then 0 else gc_I s a2 j := by
  unfold gc_I gc_nwI va_up
  by_cases e : a2 = 116 + gc_n s
  · subst e; simp
  · simp [e]
theorem rw_J_wF (s : gc_St) (q : Nat) (k : Nat) (x : Int32) : gc_J (gc_wF s q k x) = gc_J s := rfl
theorem rw_J_wI (s : gc_St) (a : Nat) (i : Nat) (x : Int32) : gc_J (gc_wI s a i x) = gc_J s := rfl
theorem rw_J_wR (s : gc_St) (a : Nat) (f : Nat → Int32) : gc_J (gc_wR s a f) = gc_J s := rfl
theorem rw_J_wJ (s : gc_St) (a : Nat) (i : Nat) (x : Int64) (a2 j : Nat) : gc_J (gc_wJ s a i x) a2 j = if a2 = a then (if j = i then x else gc_J s a2 j) else gc_J s a2 j := by
  unfold gc_J gc_wJ va_up vp_updL
  by_cases e : a2 = a
  · subst e; simp
  · simp [e]
theorem rw_J_wY (s : gc_St) (i : Nat) (b : Nat) : gc_J (gc_wY s i b) = gc_J s := rfl
theorem rw_J_wln (s : gc_St) (x : Int64) : gc_J (gc_wln s x) = gc_J s := rfl
theorem rw_J_wlw (s : gc_St) (a : Nat) : gc_J (gc_wlw s a) = gc_J s := rfl
theorem rw_J_wdr (s : gc_St) (a : Nat) : gc_J (gc_wdr s a) = gc_J s := rfl
theorem rw_J_wrl (s : gc_St) (o : Option Nat) : gc_J (gc_wrl s o) = gc_J s := rfl
theorem rw_J_wbe (s : gc_St) (a : Nat) : gc_J (gc_wbe s a) = gc_J s := rfl
theorem rw_J_nwI (s : gc_St) (z : Nat) : gc_J (gc_nwI s z) = gc_J s := rfl
theorem rw_Y_wF (s : gc_St) (q : Nat) (k : Nat) (x : Int32) : gc_Y (gc_wF s q k x) = gc_Y s := rfl
theorem rw_Y_wI (s : gc_St) (a : Nat) (i : Nat) (x : Int32) : gc_Y (gc_wI s a i x) = gc_Y s := rfl
theorem rw_Y_wR (s : gc_St) (a : Nat) (f : Nat → Int32) : gc_Y (gc_wR s a f) = gc_Y s := rfl
theorem rw_Y_wJ (s : gc_St) (a : Nat) (i : Nat) (x : Int64) : gc_Y (gc_wJ s a i x) = gc_Y s := rfl
theorem rw_Y_wY (s : gc_St) (i : Nat) (b : Nat) (j : Nat) : gc_Y (gc_wY s i b) j = if j = i then some b else gc_Y s j := rfl
theorem rw_Y_wln (s : gc_St) (x : Int64) : gc_Y (gc_wln s x) = gc_Y s := rfl
theorem rw_Y_wlw (s : gc_St) (a : Nat) : gc_Y (gc_wlw s a) = gc_Y s := rfl
theorem rw_Y_wdr (s : gc_St) (a : Nat) : gc_Y (gc_wdr s a) = gc_Y s := rfl
theorem rw_Y_wrl (s : gc_St) (o : Option Nat) : gc_Y (gc_wrl s o) = gc_Y s := rfl
theorem rw_Y_wbe (s : gc_St) (a : Nat) : gc_Y (gc_wbe s a) = gc_Y s := rfl
theorem rw_Y_nwI (s : gc_St) (z : Nat) : gc_Y (gc_nwI s z) = gc_Y s := rfl
theorem rw_ln_wF (s : gc_St) (q : Nat) (k : Nat) (x : Int32) : gc_ln (gc_wF s q k x) = gc_ln s := rfl
theorem rw_ln_wI (s : gc_St) (a : Nat) (i : Nat) (x : Int32) : gc_ln (gc_wI s a i x) = gc_ln s := rfl
theorem rw_ln_wR (s : gc_St) (a : Nat) (f : Nat → Int32) : gc_ln (gc_wR s a f) = gc_ln s := rfl
theorem rw_ln_wJ (s : gc_St) (a : Nat) (i : Nat) (x : Int64) : gc_ln (gc_wJ s a i x) = gc_ln s := rfl
theorem rw_ln_wY (s : gc_St) (i : Nat) (b : Nat) : gc_ln (gc_wY s i b) = gc_ln s := rfl
theorem rw_ln_wln (s : gc_St) (x : Int64) : gc_ln (gc_wln s x) = x := rfl
theorem rw_ln_wlw (s : gc_St) (a : Nat) : gc_ln (gc_wlw s a) = gc_ln s := rfl
theorem rw_ln_wdr (s : gc_St) (a : Nat) : gc_ln (gc_wdr s a) = gc_ln s := rfl
theorem rw_ln_wrl (s : gc_St) (o : Option Nat) : gc_ln (gc_wrl s o) = gc_ln s := rfl
theorem rw_ln_wbe (s : gc_St) (a : Nat) : gc_ln (gc_wbe s a) = gc_ln s := rfl
theorem rw_ln_nwI (s : gc_St) (z : Nat) : gc_ln (gc_nwI s z) = gc_ln s := rfl
theorem rw_lw_wF (s : gc_St) (q : Nat) (k : Nat) (x : Int32) : gc_lw (gc_wF s q k x) = gc_lw s := rfl
theorem rw_lw_wI (s : gc_St) (a : Nat) (i : Nat) (x : Int32) : gc_lw (gc_wI s a i x) = gc_lw s := rfl
theorem rw_lw_wR (s : gc_St) (a : Nat) (f : Nat → Int32) : gc_lw (gc_wR s a f) = gc_lw s := rfl
theorem rw_lw_wJ (s : gc_St) (a : Nat) (i : Nat) (x : Int64) : gc_lw (gc_wJ s a i x) = gc_lw s := rfl
theorem rw_lw_wY (s : gc_St) (i : Nat) (b : Nat) : gc_lw (gc_wY s i b) = gc_lw s := rfl
theorem rw_lw_wln (s : gc_St) (x : Int64) : gc_lw (gc_wln s x) = gc_lw s := rfl
theorem rw_lw_wlw (s : gc_St) (a : Nat) : gc_lw (gc_wlw s a) = a := rfl
theorem rw_lw_wdr (s : gc_St) (a : Nat) : gc_lw (gc_wdr s a) = gc_lw s := rfl
theorem rw_lw_wrl (s : gc_St) (o : Option Nat) : gc_lw (gc_wrl s o) = gc_lw s := rfl
theorem rw_lw_wbe (s : gc_St) (a : Nat) : gc_lw (gc_wbe s a) = gc_lw s := rfl
theorem rw_lw_nwI (s : gc_St) (z : Nat) : gc_lw (gc_nwI s z) = gc_lw s := rfl
theorem rw_dr_wF (s : gc_St) (q : Nat) (k : Nat) (x : Int32) : gc_dr (gc_wF s q k x) = gc_dr s := rfl
theorem rw_dr_wI (s : gc_St) (a : Nat) (i : Nat) (x : Int32) : gc_dr (gc_wI s a i x) = gc_dr s := rfl
theorem rw_dr_wR (s : gc_St) (a : Nat) (f : Nat → Int32) : gc_dr (gc_wR s a f) = gc_dr s := rfl
theorem rw_dr_wJ (s : gc_St) (a : Nat) (i : Nat) (x : Int64) : gc_dr (gc_wJ s a i x) = gc_dr s := rfl
theorem rw_dr_wY (s : gc_St) (i : Nat) (b : Nat) : gc_dr (gc_wY s i b) = gc_dr s := rfl
theorem rw_dr_wln (s : gc_St) (x : Int64) : gc_dr (gc_wln s x) = gc_dr s := rfl
theorem rw_dr_wlw (s : gc_St) (a : Nat) : gc_dr (gc_wlw s a) = gc_dr s := rfl
theorem rw_dr_wdr (s : gc_St) (a : Nat) : gc_dr (gc_wdr s a) = a := rfl
theorem rw_dr_wrl (s : gc_St) (o : Option Nat) : gc_dr (gc_wrl s o) = gc_dr s := rfl
theorem rw_dr_wbe (s : gc_St) (a : Nat) : gc_dr (gc_wbe s a) = gc_dr s := rfl
theorem rw_dr_nwI (s : gc_St) (z : Nat) : gc_dr (gc_nwI s z) = gc_dr s := rfl
theorem rw_rl_wF (s : gc_St) (q : Nat) (k : Nat) (x : Int32) : gc_rl (gc_wF s q k x) = gc_rl s := rfl
theorem rw_rl_wI (s : gc_St) (a : Nat) (i : Nat) (x : Int32) : gc_rl (gc_wI s a i x) = gc_rl s := rfl
theorem rw_rl_wR (s : gc_St) (a : Nat) (f : Nat → Int32) : gc_rl (gc_wR s a f) = gc_rl s := rfl
theorem rw_rl_wJ (s : gc_St) (a : Nat) (i : Nat) (x : Int64) : gc_rl (gc_wJ s a i x) = gc_rl s := rfl
theorem rw_rl_wY (s : gc_St) (i : Nat) (b : Nat) : gc_rl (gc_wY s i b) = gc_rl s := rfl
theorem rw_rl_wln (s : gc_St) (x : Int64) : gc_rl (gc_wln s x) = gc_rl s := rfl
theorem rw_rl_wlw (s : gc_St) (a : Nat) : gc_rl (gc_wlw s a) = gc_rl s := rfl
theorem rw_rl_wdr (s : gc_St) (a : Nat) : gc_rl (gc_wdr s a) = gc_rl s := rfl
theorem rw_rl_wrl (s : gc_St) (o : Option Nat) : gc_rl (gc_wrl s o) = o := rfl
theorem rw_rl_wbe (s : gc_St) (a : Nat) : gc_rl (gc_wbe s a) = gc_rl s := rfl
theorem rw_rl_nwI (s : gc_St) (z : Nat) : gc_rl (gc_nwI s z) = gc_rl s := rfl
theorem rw_be_wF (s : gc_St) (q : Nat) (k : Nat) (x : Int32) : gc_be (gc_wF s q k x) = gc_be s := rfl
theorem rw_be_wI (s : gc_St) (a : Nat) (i : Nat) (x : Int32) : gc_be (gc_wI s a i x) = gc_be s := rfl
theorem rw_be_wR (s : gc_St) (a : Nat) (f : Nat → Int32) : gc_be (gc_wR s a f) = gc_be s := rfl
theorem rw_be_wJ (s : gc_St) (a : Nat) (i : Nat) (x : Int64) : gc_be (gc_wJ s a i x) = gc_be s := rfl
theorem rw_be_wY (s : gc_St) (i : Nat) (b : Nat) : gc_be (gc_wY s i b) = gc_be s := rfl
theorem rw_be_wln (s : gc_St) (x : Int64) : gc_be (gc_wln s x) = gc_be s := rfl
theorem rw_be_wlw (s : gc_St) (a : Nat) : gc_be (gc_wlw s a) = gc_be s := rfl
theorem rw_be_wdr (s : gc_St) (a : Nat) : gc_be (gc_wdr s a) = gc_be s := rfl
theorem rw_be_wrl (s : gc_St) (o : Option Nat) : gc_be (gc_wrl s o) = gc_be s := rfl
theorem rw_be_wbe (s : gc_St) (a : Nat) : gc_be (gc_wbe s a) = a := rfl
theorem rw_be_nwI (s : gc_St) (z : Nat) : gc_be (gc_nwI s z) = gc_be s := rfl
theorem rw_n_wF (s : gc_St) (q : Nat) (k : Nat) (x : Int32) : gc_n (gc_wF s q k x) = gc_n s := rfl
theorem rw_n_wI (s : gc_St) (a : Nat) (i : Nat) (x : Int32) : gc_n (gc_wI s a i x) = gc_n s := rfl
theorem rw_n_wR (s : gc_St) (a : Nat) (f : Nat → Int32) : gc_n (gc_wR s a f) = gc_n s := rfl
theorem rw_n_wJ (s : gc_St) (a : Nat) (i : Nat) (x : Int64) : gc_n (gc_wJ s a i x) = gc_n s := rfl
theorem rw_n_wY (s : gc_St) (i : Nat) (b : Nat) : gc_n (gc_wY s i b) = gc_n s := rfl
theorem rw_n_wln (s : gc_St) (x : Int64) : gc_n (gc_wln s x) = gc_n s := rfl
theorem rw_n_wlw (s : gc_St) (a : Nat) : gc_n (gc_wlw s a) = gc_n s := rfl
theorem rw_n_wdr (s : gc_St) (a : Nat) : gc_n (gc_wdr s a) = gc_n s := rfl
theorem rw_n_wrl (s : gc_St) (o : Option Nat) : gc_n (gc_wrl s o) = gc_n s := rfl
theorem rw_n_wbe (s : gc_St) (a : Nat) : gc_n (gc_wbe s a) = gc_n s := rfl
theorem rw_n_nwI (s : gc_St) (z : Nat) : gc_n (gc_nwI s z) = gc_n s + 1 := rfl
theorem rw_D_wF (s : gc_St) (q : Nat) (k : Nat) (x : Int32) : gc_D (gc_wF s q k x) = gc_D s := rfl
theorem rw_D_wI (s : gc_St) (a : Nat) (i : Nat) (x : Int32) : gc_D (gc_wI s a i x) = gc_D s := rfl
theorem rw_D_wR (s : gc_St) (a : Nat) (f : Nat → Int32) : gc_D (gc_wR s a f) = gc_D s := rfl
theorem rw_D_wJ (s : gc_St) (a : Nat) (i : Nat) (x : Int64) : gc_D (gc_wJ s a i x) = gc_D s := rfl
theorem rw_D_wY (s : gc_St) (i : Nat) (b : Nat) : gc_D (gc_wY s i b) = gc_D s := rfl
theorem rw_D_wln (s : gc_St) (x : Int64) : gc_D (gc_wln s x) = gc_D s := rfl
theorem rw_D_wlw (s : gc_St) (a : Nat) : gc_D (gc_wlw s a) = gc_D s := rfl
theorem rw_D_wdr (s : gc_St) (a : Nat) : gc_D (gc_wdr s a) = gc_D s := rfl
theorem rw_D_wrl (s : gc_St) (o : Option Nat) : gc_D (gc_wrl s o) = gc_D s := rfl
theorem rw_D_wbe (s : gc_St) (a : Nat) : gc_D (gc_wbe s a) = gc_D s := rfl
theorem rw_D_nwI (s : gc_St) (z : Nat) (q : Nat) : gc_D (gc_nwI s z) q = if q = 116 + gc_n s then z else gc_D s q := rfl
theorem rw_gk_wF (s : gc_St) (q : Nat) (k : Nat) (x : Int32) : gc_gk (gc_wF s q k x) = gc_gk s := rfl
theorem rw_gk_wI (s : gc_St) (a : Nat) (i : Nat) (x : Int32) : gc_gk (gc_wI s a i x) = gc_gk s := rfl
theorem rw_gk_wR (s : gc_St) (a : Nat) (f : Nat → Int32) : gc_gk (gc_wR s a f) = gc_gk s := rfl
theorem rw_gk_wJ (s : gc_St) (a : Nat) (i : Nat) (x : Int64) : gc_gk (gc_wJ s a i x) = gc_gk s := rfl
theorem rw_gk_wY (s : gc_St) (i : Nat) (b : Nat) : gc_gk (gc_wY s i b) = gc_gk s := rfl
theorem rw_gk_wln (s : gc_St) (x : Int64) : gc_gk (gc_wln s x) = gc_gk s := rfl
theorem rw_gk_wlw (s : gc_St) (a : Nat) : gc_gk (gc_wlw s a) = gc_gk s := rfl
theorem rw_gk_wdr (s : gc_St) (a : Nat) : gc_gk (gc_wdr s a) = gc_gk s := rfl
theorem rw_gk_wrl (s : gc_St) (o : Option Nat) : gc_gk (gc_wrl s o) = gc_gk s := rfl
theorem rw_gk_wbe (s : gc_St) (a : Nat) : gc_gk (gc_wbe s a) = gc_gk s := rfl
