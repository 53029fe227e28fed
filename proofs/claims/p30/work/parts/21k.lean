/-! THE REFERENCE: sound, digest, value -/
