/-! ===== the image ===== -/
theorem RSite_same {fu ft fd fs fe eun et ed es ee : Int32} {tr upr lwr dr hu hk sf ss si ew eu kd th fm tm ph ab bl dg tu tk sn ev tr' upr' lwr' dr' hu' hk' sf' ss' si' ew' eu' kd' th' fm' tm' ph' ab' bl' dg' tu' tk' sn' ev' : Nat → Int32} (h : RSite fu ft fd fs fe tr upr lwr dr hu hk sf ss si ew eu eun et ed es ee kd th fm tm ph ab bl dg tu tk sn ev) (h_tr : SAME 60 tr tr') (h_upr : SAME 40 upr upr') (h_lwr : SAME 40 lwr lwr') (h_dr : SAME 12 dr dr') (h_hu : SAME 12 hu hu') (h_hk : SAME 12 hk hk') (h_sf : SAME 5 sf sf') (h_ss : SAME 5 ss ss') (h_si : SAME 5 si si') (h_ew : SAME 8 ew ew') (h_eu : SAME 8 eu eu') (h_kd : SAME 12 kd kd') (h_th : SAME 12 th th') (h_fm : SAME 12 fm fm') (h_tm : SAME 12 tm tm') (h_ph : SAME 12 ph ph') (h_ab : SAME 40 ab ab') (h_bl : SAME 40 bl bl') (h_dg : SAME 12 dg dg') (h_tu : SAME 12 tu tu') (h_tk : SAME 12 tk tk') (h_sn : SAME 15 sn sn') (h_ev : SAME 16 ev ev') : RSite fu ft fd fs fe tr' upr' lwr' dr' hu' hk' sf' ss' si' ew' eu' eun et ed es ee kd' th' fm' tm' ph' ab' bl' dg' tu' tk' sn' ev' := by
  obtain ⟨n, t, d, s, e, up, lo, dn, hN, h1, h2, h3, h4, h5, h6⟩ := h
  obtain ⟨⟨n1, n2, n3⟩, ⟨t1, t2, t3⟩, hD, ⟨s1, s2, s3⟩, ⟨e1, e2, e3⟩⟩ := id hN
  exact ⟨n, t, d, s, e, up, lo, dn, hN, RTr_same n3 h1 h_tr h_kd h_th h_fm h_tm h_ph, RTi_same t3 h2 h_upr h_lwr h_ab h_bl, RDg_same n3 h3 h_dr h_dg, RTy_same h4 h_hu h_hk h_tu h_tk, RSn_same s3 h5 h_sf h_ss h_si h_sn, REv_same e3 h6 h_ew h_eu h_ev⟩
theorem same_refl (N : Nat) (f : Nat → Int32) : SAME N f f := fun _ _ => rfl
def RPict (pic pu pt pd ps pe : Int32) (ptr pupr plwr pdr phu phk psf pss psi pew peu : Nat → Int32) (has : Int32) (kept : Nat → Int32) : Prop := (pic = 0 ∧ has = 0) ∨ (¬ pic = 0 ∧ ¬ has = 0 ∧ ∃ k_kd k_th k_fm k_tm k_ph k_ab k_bl k_dg k_tu k_tk k_sn k_ev k_nm : Nat → Int32, KEPT kept k_kd k_th k_fm k_tm k_ph k_dg k_ab k_bl k_tu k_tk k_sn k_ev k_nm ∧ RSite pu pt pd ps pe ptr pupr plwr pdr phu phk psf pss psi pew peu (k_nm 0) (k_nm 1) (k_nm 2) (k_nm 3) (k_nm 4) k_kd k_th k_fm k_tm k_ph k_ab k_bl k_dg k_tu k_tk k_sn k_ev)
theorem nm_au {f : Nat → Int32} {w : Nat} (hw : w < 5) {x : Int32} {β : Type} (k : (Nat → Int32) → Option β) : au f 5 (nI w) x k = k (upd f w x) := au_n hw (by omega)
theorem nm_ag {f : Nat → Int32} {w : Nat} (hw : w < 5) {β : Type} (k : Int32 → Option β) : ag f 5 (nI w) k = k (f w) := ag_n hw (by omega)
theorem o_image {fu ft fd fs fe eun et ed es ee : Int32} {tr upr lwr dr hu hk sf ss si ew eu kd th fm tm ph ab bl dg tu tk sn ev : Nat → Int32} (H : RSite fu ft fd fs fe tr upr lwr dr hu hk sf ss si ew eu eun et ed es ee kd th fm tm ph ab bl dg tu tk sn ev) (pu pt pd ps pe pic has : Int32) (ptr pupr plwr pdr phu phk psf pss psi pew peu kept nm : Nat → Int32) : ∃ a b c d' e' f g h i j k kept' nm', m_X7_image fu ft fd fs fe tr upr lwr dr hu hk sf ss si ew eu pu pt pd ps pe ptr pupr plwr pdr phu phk psf pss psi pew peu pic = some (fu, ft, fd, fs, fe, a, b, c, d', e', f, g, h, i, j, k, 1, fu) ∧ m_X8_image eun kd th fm tm ph et ab bl dg ed tu tk sn es ev ee kept nm has = some (kd, th, fm, tm, ph, ab, bl, dg, tu, tk, sn, ev, kept', nm', 1, fu) ∧ RPict 1 fu ft fd fs fe a b c d' e' f g h i j k 1 kept' := by
  have hun : eun = fu := by
    obtain ⟨n, t, d, s, e, up, lo, dn, ⟨⟨n1, n2, -⟩, -⟩, -⟩ := id H
    rw [n1, n2]
  have hsi : ∀ k, k < 5 → si k = 0 ∨ si k = 1 := by
    obtain ⟨n, t, d, s, e, up, lo, dn, -, -, -, -, -, h5, -⟩ := id H
    exact h5.1
  obtain ⟨a, b, c, d', e', f, g, h, i, j, k, q0, q1, q2, q3, q4, q5, q6, q7, q8, q9, q10, hb⟩ := becomes pu pt pd ps pe ptr pupr plwr pdr phu phk psf pss psi pew peu fu ft fd fs fe tr upr lwr dr hu hk sf ss si ew eu hsi
  obtain ⟨kept', hk, hc⟩ := keep_in kept kd th fm tm ph dg ab bl tu tk sn ev (upd (upd (upd (upd (upd nm 0 eun) 1 et) 2 ed) 3 es) 4 ee)
  refine ⟨a, b, c, d', e', f, g, h, i, j, k, kept', upd (upd (upd (upd (upd nm 0 eun) 1 et) 2 ed) 3 es) 4 ee, ?_, ?_, Or.inr ⟨by decide, by decide, kd, th, fm, tm, ph, ab, bl, dg, tu, tk, sn, ev, upd (upd (upd (upd (upd nm 0 eun) 1 et) 2 ed) 3 es) 4 ee, hk, ?_⟩⟩
  · unfold m_X7_image
    rw [hb, cl_s]
  · unfold m_X8_image
    show au nm 5 (nI 0) eun _ = _
    rw [nm_au (by omega)]
    show au _ 5 (nI 1) et _ = _
    rw [nm_au (by omega)]
    show au _ 5 (nI 2) ed _ = _
    rw [nm_au (by omega)]
    show au _ 5 (nI 3) es _ = _
    rw [nm_au (by omega)]
    show au _ 5 (nI 4) ee _ = _
    rw [nm_au (by omega)]
    rw [hc, cl_s, hun]
  · show RSite _ _ _ _ _ _ _ _ _ _ _ _ _ _ _ _ eun et ed es ee _ _ _ _ _ _ _ _ _ _ _ _
    exact RSite_same H q0 q1 q2 q3 q4 q5 q6 q7 q8 q9 q10 (same_refl _ _) (same_refl _ _) (same_refl _ _) (same_refl _ _) (same_refl _ _) (same_refl _ _) (same_refl _ _) (same_refl _ _) (same_refl _ _) (same_refl _ _) (same_refl _ _) (same_refl _ _)
theorem o_undo {fu ft fd fs fe eun et ed es ee : Int32} {tr upr lwr dr hu hk sf ss si ew eu kd th fm tm ph ab bl dg tu tk sn ev : Nat → Int32} (H : RSite fu ft fd fs fe tr upr lwr dr hu hk sf ss si ew eu eun et ed es ee kd th fm tm ph ab bl dg tu tk sn ev) {pu pt pd ps pe pic has : Int32} {ptr pupr plwr pdr phu phk psf pss psi pew peu kept : Nat → Int32} (nm : Nat → Int32) (P : RPict pic pu pt pd ps pe ptr pupr plwr pdr phu phk psf pss psi pew peu has kept) : ∃ fu' ft' fd' fs' fe' a b c d' e' f g h i j k eun' et' ed' es' ee' n_kd n_th n_fm n_tm n_ph n_ab n_bl n_dg n_tu n_tk n_sn n_ev nm' r, m_X7_undo fu ft fd fs fe tr upr lwr dr hu hk sf ss si ew eu pu pt pd ps pe ptr pupr plwr pdr phu phk psf pss psi pew peu pic = some (fu', ft', fd', fs', fe', a, b, c, d', e', f, g, h, i, j, k, r) ∧ m_X8_undo eun kd th fm tm ph et ab bl dg ed tu tk sn es ev ee kept nm has = some (eun', n_kd, n_th, n_fm, n_tm, n_ph, et', n_ab, n_bl, n_dg, ed', n_tu, n_tk, n_sn, es', n_ev, ee', kept, nm', r) ∧ RSite fu' ft' fd' fs' fe' a b c d' e' f g h i j k eun' et' ed' es' ee' n_kd n_th n_fm n_tm n_ph n_ab n_bl n_dg n_tu n_tk n_sn n_ev := by
  unfold m_X7_undo m_X8_undo
  rcases P with ⟨p1, p2⟩ | ⟨p1, p2, k_kd, k_th, k_fm, k_tm, k_ph, k_ab, k_bl, k_dg, k_tu, k_tk, k_sn, k_ev, k_nm, hkp, HP⟩
  · rw [if_pos p1, if_pos p2]
    exact ⟨fu, ft, fd, fs, fe, tr, upr, lwr, dr, hu, hk, sf, ss, si, ew, eu, eun, et, ed, es, ee, kd, th, fm, tm, ph, ab, bl, dg, tu, tk, sn, ev, nm, -3, rfl, rfl, H⟩
  have hsi : ∀ k, k < 5 → psi k = 0 ∨ psi k = 1 := by
    obtain ⟨n, t, d, s, e, up, lo, dn, -, -, -, -, -, h5, -⟩ := id HP
    exact h5.1
  have hun : k_nm 0 = pu := by
    obtain ⟨n, t, d, s, e, up, lo, dn, ⟨⟨n1, n2, -⟩, -⟩, -⟩ := id HP
    rw [n1, n2]
  obtain ⟨a, b, c, d', e', f, g, h, i, j, k, q0, q1, q2, q3, q4, q5, q6, q7, q8, q9, q10, hb⟩ := becomes fu ft fd fs fe tr upr lwr dr hu hk sf ss si ew eu pu pt pd ps pe ptr pupr plwr pdr phu phk psf pss psi pew peu hsi
  obtain ⟨n_kd, n_th, n_fm, n_tm, n_ph, n_dg, n_ab, n_bl, n_tu, n_tk, n_sn, n_ev, n_nm, y_kd, y_th, y_fm, y_tm, y_ph, y_dg, y_ab, y_bl, y_tu, y_tk, y_sn, y_ev, y_nm, hc⟩ := keep_out kept kd th fm tm ph dg ab bl tu tk sn ev nm k_kd k_th k_fm k_tm k_ph k_dg k_ab k_bl k_tu k_tk k_sn k_ev k_nm hkp
  rw [if_neg p1, if_neg p2, hb, hc, cl_s, cl_s]
  refine ⟨pu, pt, pd, ps, pe, a, b, c, d', e', f, g, h, i, j, k, k_nm 0, k_nm 1, k_nm 2, k_nm 3, k_nm 4, n_kd, n_th, n_fm, n_tm, n_ph, n_ab, n_bl, n_dg, n_tu, n_tk, n_sn, n_ev, n_nm, pu, rfl, ?_, RSite_same HP q0 q1 q2 q3 q4 q5 q6 q7 q8 q9 q10 y_kd y_th y_fm y_tm y_ph y_ab y_bl y_dg y_tu y_tk y_sn y_ev⟩
  dsimp only
  show ag n_nm 5 (nI 0) _ = _
  rw [nm_ag (by omega)]
  show ag n_nm 5 (nI 1) _ = _
  rw [nm_ag (by omega)]
  show ag n_nm 5 (nI 2) _ = _
  rw [nm_ag (by omega)]
  show ag n_nm 5 (nI 3) _ = _
  rw [nm_ag (by omega)]
  show ag n_nm 5 (nI 4) _ = _
  rw [nm_ag (by omega)]
  rw [y_nm 0 (by omega), y_nm 1 (by omega), y_nm 2 (by omega), y_nm 3 (by omega), y_nm 4 (by omega), hun]
