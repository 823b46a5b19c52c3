/-! ===== the relations do not see beyond the rows ===== -/
theorem RTr_same {n : Nat} (hn : n ≤ 12) {tr kd th fm tm ph tr' kd' th' fm' tm' ph' : Nat → Int32} (hr : RTr n tr kd th fm tm ph) (h : SAME 60 tr tr') (h1 : SAME 12 kd kd') (h2 : SAME 12 th th') (h3 : SAME 12 fm fm') (h4 : SAME 12 tm tm') (h5 : SAME 12 ph ph') : RTr n tr' kd' th' fm' tm' ph' := fun u hu => by
  have := hr u hu
  rw [h u (by omega), h (12 + u) (by omega), h (24 + u) (by omega), h (36 + u) (by omega), h (48 + u) (by omega), h1 u (by omega), h2 u (by omega), h3 u (by omega), h4 u (by omega), h5 u (by omega)]
  exact this
theorem RTi_same {n t : Nat} (ht : t ≤ 40) {upr lwr ab bl upr' lwr' ab' bl' : Nat → Int32} {up lo : Nat → Nat} (h : RTi n t upr lwr ab bl up lo) (h1 : SAME 40 upr upr') (h2 : SAME 40 lwr lwr') (h3 : SAME 40 ab ab') (h4 : SAME 40 bl bl') : RTi n t upr' lwr' ab' bl' up lo := by
  obtain ⟨hT, hd, he⟩ := h
  refine ⟨fun k hk => ?_, hd, fun k hk => ?_⟩
  · rw [h1 k (by omega), h2 k (by omega)]; exact hT k hk
  · rw [h1 k (by omega), h2 k (by omega), h3 k (by omega), h4 k (by omega)]; exact he k hk
theorem RDg_same {n d : Nat} (hn : n ≤ 12) {dr dg dr' dg' : Nat → Int32} {dn : Nat → Nat} (h : RDg n d dr dg dn) (h1 : SAME 12 dr dr') (h2 : SAME 12 dg dg') : RDg n d dr' dg' dn := by
  have hd := RDg_le h
  refine ⟨fun k hk => ?_, h.2⟩
  rw [h1 k (by omega), h2 k (by omega)]; exact h.1 k hk
theorem RTy_same {hu hk tu tk hu' hk' tu' tk' : Nat → Int32} (h : RTy hu hk tu tk) (h1 : SAME 12 hu hu') (h2 : SAME 12 hk hk') (h3 : SAME 12 tu tu') (h4 : SAME 12 tk tk') : RTy hu' hk' tu' tk' := fun k hk => by
  rw [h1 k hk, h2 k hk, h3 k hk, h4 k hk]; exact h k hk
theorem RSn_same {n s : Nat} (hs : s ≤ 5) {sf ss si sn sf' ss' si' sn' : Nat → Int32} (h : RSn n s sf ss si sn) (h1 : SAME 5 sf sf') (h2 : SAME 5 ss ss') (h3 : SAME 5 si si') (h4 : SAME 15 sn sn') : RSn n s sf' ss' si' sn' := by
  refine ⟨fun k hk => ?_, fun k hk => ?_⟩
  · rw [h3 k hk]; exact h.1 k hk
  · rw [h4 (3 * k) (by omega), h4 (3 * k + 1) (by omega), h4 (3 * k + 2) (by omega), h1 k (by omega), h2 k (by omega), h3 k (by omega)]; exact h.2 k hk
theorem REv_same {n e : Nat} (he : e ≤ 8) {ew eu ev ew' eu' ev' : Nat → Int32} (h : REv n e ew eu ev) (h1 : SAME 8 ew ew') (h2 : SAME 8 eu eu') (h3 : SAME 16 ev ev') : REv n e ew' eu' ev' := fun k hk => by
  rw [h3 (2 * k) (by omega), h3 (2 * k + 1) (by omega), h1 k (by omega), h2 k (by omega)]; exact h k hk
