theorem zz_a1 : ∀ w ∈ Bundle.ownAtoms "PictureDesk" 205 (vx_cls 1) vx_up, vx_okw w := vx_okb_ok (by decide +kernel)
theorem zz_a2 : ∀ w ∈ Bundle.ownAtoms0 "PictureDeskModel" 99 (vx_cls 3) vx_up, vx_okw w := vx_okb_ok (by decide +kernel)
