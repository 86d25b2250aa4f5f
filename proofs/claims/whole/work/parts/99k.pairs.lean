/-! every call but text, feed, latch, count: both are asked, and answer alike -/
section PAIRS
variable {E : Scr} {z : ZT} {s : PSt} {y : YS} {no : NS} {M : Mem} {P : Mem → Prop}
theorem IP.hB (h : IP z s y no) : LwB (lawO s) := h.2.2.2.2.1
theorem IP.hP (h : IP z s y no) : wfP (sN s) (poOf s) := h.2.2.2.2.2.1
theorem IP.hw (h : IP z s y no) : wfY (sN s) y := h.2.2.2.2.2.2.1
theorem IP.hn (h : IP z s y no) : wfNo (sN s) no := h.2.2.2.2.2.2.2
theorem Inv.hCD (h : Inv z s y no M) : CD (sN s) (mayP s) (lawO s) (sRu s) M := h.2.1.1.2.2.1
theorem Inv.hPC (h : Inv z s y no M) : PC (poOf s) M := h.2.1.1.2.2.2.1
theorem Inv.hYC (h : Inv z s y no M) : YC y M := h.2.1.2.1
theorem Inv.hNC (h : Inv z s y no M) : NC no M := h.2.1.2.2
theorem Rf.hMD (h : Rf z s y no M) : MD (sN s) (mayP s) (lawO s) (sRu s) M := h.1.2.2.1
theorem Rf.hPM (h : Rf z s y no M) : PM (poOf s) M := h.1.2.2.2.1
theorem Rf.hYM (h : Rf z s y no M) : YM y M := h.2.1
theorem Rf.hNM (h : Rf z s y no M) : NM no M := h.2.2
theorem b_push {x : Int} (hx : iR x) (h : Inv z s y no M) (H : ∀ M', Inv z s (pushY (sN s) (mayP s) (lawO s) (sRu s) x y).2 no M' → P M') : Bo E mX10_push mX11_push [pI x] M P :=
  bo_dyn (pushY_wf h.1.hw) h H (fun f F => c_pushC hx h.1.hB h.1.hw h.hCD h.hYC F) (fun M1 f R F => c_pushM hx h.1.hw R.hMD R.hYM F)
theorem b_force {x : Int} (hx : iR x) (h : Inv z s y no M) (H : ∀ M', Inv z s (forceY (sN s) x y).2 no M' → P M') : Bo E mX10_force mX11_force [pI x] M P :=
  bo_dyn (forceY_wf h.1.hw) h H (fun f F => c_forceC hx h.1.hw h.hCD h.hYC F) (fun M1 f R F => c_forceM hx h.1.hw R.hMD R.hYM F)
theorem b_seal {x : Int} (hx : iR x) (h : Inv z s y no M) (H : ∀ M', Inv z s (sealY (sN s) x y).2 no M' → P M') : Bo E mX10_seal mX11_seal [pI x] M P :=
  bo_dyn (sealY_wf h.1.hw) h H (fun f F => c_sealC hx h.1.hw h.hCD h.hYC F) (fun M1 f R F => c_sealM hx h.1.hw R.hMD R.hYM F)
theorem b_go {x : Int} (hx : iR x) (h : Inv z s y no M) (H : ∀ M', Inv z s (goY (lawO s) (mayP s) (sRu s) (poOf s) x y).2 no M' → P M') : Bo E mX10_go mX11_go [pI x] M P :=
  bo_dyn (goY_wf h.1.hP h.1.hw) h H (fun f F => c_goC hx h.1.hB h.1.hP h.1.hw h.hCD h.hPC h.hYC F) (fun M1 f R F => c_goM hx h.1.hP h.1.hw R.hMD R.hPM R.hYM F)
theorem b_undo  (h : Inv z s y no M) (H : ∀ M', Inv z s (undoY y).2 no M' → P M') : Bo E mX10_undo mX11_undo [] M P :=
  bo_dyn (undoY_wf h.1.hw) h H (fun f F => c_undoC h.hYC F) (fun M1 f R F => c_undoM R.hYM F)
theorem b_keep  (h : Inv z s y no M) (H : ∀ M', Inv z s (keepY y).2 no M' → P M') : Bo E mX10_keep mX11_keep [] M P :=
  bo_dyn (keepY_wf h.1.hw) h H (fun f F => c_keepC h.hYC F) (fun M1 f R F => c_keepM R.hYM F)
theorem b_back  (h : Inv z s y no M) (H : ∀ M', Inv z s (backY y).2 no M' → P M') : Bo E mX10_back mX11_back [] M P :=
  bo_dyn (backY_wf h.1.hw) h H (fun f F => c_backC h.hYC F) (fun M1 f R F => c_backM R.hYM F)
theorem b_ahead {x w : Int} (hx : iR x) (hw : iR w) (h : Inv z s y no M) (H : ∀ M', Inv z s y no M' → P M') : Bo E mX10_ahead mX11_ahead [pI x, pI w] M P :=
  bo_obs h H (fun f F => c_aheadC hx hw h.1.hB h.1.hP h.1.hw h.hCD h.hPC h.hYC (fun M' q => F M' q.kpC)) (fun M1 f R F => c_aheadM hx hw h.1.hP h.1.hw R.hMD R.hPM R.hYM (fun M' q q2 => F M' (FrR.kpR R q q2)))
theorem b_when {x : Int} (hx : iR x) (h : Inv z s y no M) (H : ∀ M', Inv z s y no M' → P M') : Bo E mX10_when mX11_when [pI x] M P :=
  bo_obs h H (fun f F => c_whenC hx h.1.hB h.1.hP h.1.hw h.hCD h.hPC h.hYC (fun M' q => F M' q.kpC)) (fun M1 f R F => c_whenM hx h.1.hP h.1.hw R.hMD R.hPM R.hYM (fun M' q q2 => F M' (FrR.kpR R q q2)))
theorem b_row {w : Int} (hw : iR w) (h : Inv z s y no M) (H : ∀ M', Inv z s y no M' → P M') : Bo E mX10_row mX11_row [pI w] M P :=
  bo_obs h H (fun f F => c_rowC hw h.1.hw h.hCD h.hYC (F M (KpC.rf M))) (fun M1 f R F => c_rowM hw h.1.hw R.hMD R.hYM (fun M' q q2 => F M' (FrR.kpR R q q2)))
theorem b_could {x w : Int} (hx : iR x) (hw : iR w) (h : Inv z s y no M) (H : ∀ M', Inv z s y no M' → P M') : Bo E mX10_could mX11_could [pI x, pI w] M P :=
  bo_obs h H (fun f F => c_couldC hx hw h.hCD (F M (KpC.rf M))) (fun M1 f R F => c_couldM hx hw R.hMD (F _ (KpR.u2 R)))
theorem b_law {x w : Int} (hx : iR x) (hw : iR w) (h : Inv z s y no M) (H : ∀ M', Inv z s y no M' → P M') : BoL E mX10_law mX11_law [pI x, pI w] M P :=
  bo_obsL h H (fun f F => c_lawC hx hw h.1.hw h.hCD h.hYC (fun M' q => F M' q.kpC)) (fun M1 f R F => c_lawM hx hw h.1.hw R.hMD R.hYM (fun M' q q2 => F M' (FrR.kpR R q q2)))
theorem b_tried {w i x : Int} (hw : iR w) (hi : iR i) (hx : iR x) (h : Inv z s y no M) (H : ∀ M', Inv z s y no M' → P M') : Bo E mX10_tried mX11_tried [pI w, pI i, pI x] M P :=
  bo_obs h H (fun f F => c_triedC hw hi hx h.1.hB h.1.hP h.1.hw h.hCD h.hPC h.hYC (fun M' q => F M' q.kpC)) (fun M1 f R F => c_triedM hw hi hx h.1.hP h.1.hw R.hMD R.hPM R.hYM (fun M' q q2 => F M' (FrR.kpR R q q2)))
theorem b_chance {sd x w : Int} (hsd : iR sd) (hx : iR x) (hw : iR w) (h : Inv z s y no M) (H : ∀ M', Inv z s y no M' → P M') : Bo E mX10_chance mX11_chance [pI sd, pI x, pI w] M P :=
  bo_obs h H (fun f F => c_chanceC hsd hx hw h.1.hB h.1.hP h.1.hw h.hCD h.hPC h.hYC (fun M' q => F M' q.kpC)) (fun M1 f R F => c_chanceM hsd hx hw h.1.hP h.1.hw R.hMD R.hPM R.hYM (fun M' q q2 => F M' (FrR.kpR R q q2)))
theorem b_fewest {x : Int} (hx : iR x) (h : Inv z s y no M) (H : ∀ M', Inv z s y no M' → P M') : Bo E mX10_fewest mX11_fewest [pI x] M P :=
  bo_obs h H (fun f F => c_fewestC hx h.1.hw h.hCD h.hYC (fun M' q => F M' q.kpC)) (fun M1 f R F => c_fewestM hx h.1.hw R.hMD R.hYM (fun M' q => F M' (FrN.kpR R q)))
theorem b_ways {x : Int} (hx : iR x) (h : Inv z s y no M) (H : ∀ M', Inv z s y no M' → P M') : Bo E mX10_ways mX11_ways [pI x] M P :=
  bo_obs h H (fun f F => c_waysC hx h.1.hw h.hCD h.hYC (fun M' q => F M' q.kpC)) (fun M1 f R F => c_waysM hx h.1.hw R.hMD R.hYM (fun M' q => F M' (FrN.kpR R q)))
theorem b_farthest {x : Int} (hx : iR x) (h : Inv z s y no M) (H : ∀ M', Inv z s y no M' → P M') : Bo E mX10_farthest mX11_farthest [pI x] M P :=
  bo_obs h H (fun f F => c_farthestC hx h.1.hw h.hCD h.hYC (fun M' q => F M' q.kpC)) (fun M1 f R F => c_farthestM hx h.1.hw R.hMD R.hYM (fun M' q => F M' (FrN.kpR R q)))
theorem b_must {x : Int} (hx : iR x) (h : Inv z s y no M) (H : ∀ M', Inv z s y no M' → P M') : Bo E mX10_must mX11_must [pI x] M P :=
  bo_obs h H (fun f F => c_mustC hx h.1.hw h.hCD h.hYC (fun M' q => F M' q.kpC)) (fun M1 f R F => c_mustM hx h.1.hw R.hMD R.hYM (fun M' q => F M' (FrN.kpR R q)))
theorem b_free {x : Int} (hx : iR x) (h : Inv z s y no M) (H : ∀ M', Inv z s y no M' → P M') : Bo E mX10_free mX11_free [pI x] M P :=
  bo_obs h H (fun f F => c_freeC hx h.1.hw h.hCD h.hYC (fun M' q => F M' q.kpC)) (fun M1 f R F => c_freeM hx h.1.hw R.hMD R.hYM (fun M' q => F M' (FrN.kpR R q)))
theorem b_game {x : Int} (hx : iR x) (h : Inv z s y no M) (H : ∀ M', Inv z s y no M' → P M') : Bo E mX10_game mX11_game [pI x] M P :=
  bo_obs h H (fun f F => c_gameC hx h.1.hw h.hCD h.hYC (fun M' q => F M' q.kpC)) (fun M1 f R F => c_gameM hx h.1.hw R.hMD R.hYM (fun M' q => F M' (FrN.kpR R q)))
theorem b_first {x : Int} (hx : iR x) (h : Inv z s y no M) (H : ∀ M', Inv z s y no M' → P M') : Bo E mX10_first mX11_first [pI x] M P :=
  bo_obs h H (fun f F => c_firstC hx h.1.2.2.1 h.1.hw h.hCD h.hYC (fun M' q => F M' q.kpC)) (fun M1 f R F => c_firstM hx h.1.hw R.hMD R.hYM (fun M' q => F M' (FrN.kpR R q)))
theorem b_ease {x : Int} (hx : iR x) (h : Inv z s y no M) (H : ∀ M', Inv z s y no M' → P M') : Bo E mX10_ease mX11_ease [pI x] M P :=
  bo_obs h H (fun f F => c_easeC hx h.1.hw h.hCD h.1.2.2.2.1 h.2.1.1.2.2.2.2.2.1 h.hYC (fun M' q => F M' q.kpC)) (fun M1 f R F => c_easeM hx h.1.hw R.hMD R.hYM (fun M' q => F M' (FrN.kpR R q)))
theorem b_reach  (h : Inv z s y no M) (H : ∀ M', Inv z s y no M' → P M') : Bo E mX10_reach mX11_reach [] M P :=
  bo_obs h H (fun f F => c_reachC h.1.hw h.hCD h.hYC (fun M' q => F M' q.kpC)) (fun M1 f R F => c_reachM h.1.hw R.hMD R.hYM (fun M' q => F M' (FrN.kpR R q)))
theorem b_wide  (h : Inv z s y no M) (H : ∀ M', Inv z s y no M' → P M') : Bo E mX10_wide mX11_wide [] M P :=
  bo_obs h H (fun f F => c_wideC h.1.hw h.hCD h.hYC (fun M' q => F M' q.kpC)) (fun M1 f R F => c_wideM h.1.hw R.hMD R.hYM (fun M' q => F M' (FrN.kpR R q)))
theorem b_parts  (h : Inv z s y no M) (H : ∀ M', Inv z s y no M' → P M') : Bo E mX10_parts mX11_parts [] M P :=
  bo_obs h H (fun f F => c_partsC h.1.hw h.hCD h.hYC (fun M' q => F M' q.kpC)) (fun M1 f R F => c_partsM h.1.hw R.hMD R.hYM (fun M' q => F M' (FrN.kpR R q)))
theorem b_past {x k : Int} (hx : iR x) (hk : iR k) (h : Inv z s y no M) (H : ∀ M', Inv z s y no M' → P M') : Bo E mX10_past mX11_past [pI x, pI k] M P :=
  bo_obs h H (fun f F => c_pastC hx hk h.1.hw h.hCD h.hYC (fun M' q => F M' q.kpC)) (fun M1 f R F => c_pastM hx hk h.1.hw R.hMD R.hYM (fun M' q => F M' (FrN.kpR R q)))
theorem b_drunk {x k w : Int} (hx : iR x) (hk : iR k) (hw : iR w) (h : Inv z s y no M) (H : ∀ M', Inv z s y no M' → P M') : BoL E mX10_drunk mX11_drunk [pI x, pI k, pI w] M P :=
  bo_obsL h H (fun f F => c_drunkC hx hk hw h.1.hw h.hCD h.hYC (fun M' q => F M' q.kpC)) (fun M1 f R F => c_drunkM hx hk hw h.1.hw R.hMD R.hYM (fun M' q => F M' (FrN.kpR R q)))
theorem b_holds {k x : Int} (hk : iR k) (hx : iR x) (h : Inv z s y no M) (H : ∀ M', Inv z s y no M' → P M') : BoL E mX10_holds mX11_holds [pI k, pI x] M P :=
  bo_obsL h H (fun f F => c_holdsC hk hx h.hCD.2.2.2.2.1 h.hCD.2.2.2.2.2 (F M (KpC.rf M))) (fun M1 f R F => c_holdsM hk hx R.hMD.2.2.2.2.1 R.hMD.2.2.2.2.2 (F _ (KpR.u2 R)))
theorem b_note {x l c : Int} (hx : iR x) (hl : iR l) (hc : zR c) (h : Inv z s y no M) (H : ∀ M', Inv z s y (notY (sN s) x l c no).2 M' → P M') : Bo E mX10_note mX11_note [pI x, pI l, pI c] M P :=
  bo_nts (notY_wf h.1.hn hc) h H (fun f F => c_noteC hx hl hc h.1.hn h.hCD h.hNC F) (fun M1 f R F => c_noteM hx hl hc h.1.hn R.hMD R.hNM F)
theorem b_strike {x : Int} (hx : iR x) (h : Inv z s y no M) (H : ∀ M', Inv z s y (strY x no).2 M' → P M') : Bo E mX10_strike mX11_strike [pI x] M P :=
  bo_nts (strY_wf h.1.hn) h H (fun f F => c_strikeC hx h.1.hn h.hNC F) (fun M1 f R F => c_strikeM hx h.1.hn R.hNM F)
theorem b_known {x : Int} (hx : iR x) (h : Inv z s y no M) (H : ∀ M', Inv z s y (knoY x no).2 M' → P M') : Bo E mX10_known mX11_known [pI x] M P :=
  bo_nts (knoY_wf h.1.hn) h H (fun f F => c_knownC hx h.hNC F) (fun M1 f R F => c_knownM hx h.1.hn R.hNM F)
theorem b_fits {x : Int} (hx : iR x) (h : Inv z s y no M) (H : ∀ M', Inv z s y no M' → P M') : Bo E mX10_fits mX11_fits [pI x] M P :=
  bo_nts h.1.hn h H (fun f F => c_fitsC hx h.1.hn h.hCD h.hNC F) (fun M1 f R F => c_fitsM hx h.1.hn R.hMD R.hNM F)
theorem b_ask {x w : Int} (hx : iR x) (hw : iR w) (h : Inv z s y no M) (H : ∀ M', Inv z s y no M' → P M') : Bo E mX10_ask mX11_ask [pI x, pI w] M P :=
  bo_nts h.1.hn h H (fun f F => c_askC hx hw h.1.hn h.hCD h.hNC F) (fun M1 f R F => c_askM hx hw h.1.hn R.hMD R.hNM F)
end PAIRS
